/-! The reference: kinds of letters, same, write -/
section MK
variable {l : Launch} {D : va_G} {aC : Nat → ClassId} {base : Nat} {h : jjHp}
theorem jb_cases (b : Bool) : (b = true ∧ jb_I b = 1) ∨ (b = false ∧ jb_I b = 0) := by
  cases b
  · exact Or.inr ⟨rfl, rfl⟩
  · exact Or.inl ⟨rfl, rfl⟩
theorem nI_lit {c k : Nat} (hc : c < 65536) (hk : k < 65536) : nI c = nI k ↔ c = k := nI_eq (by omega) (by omega)
theorem mo_allowed {c : Nat} {w : Bool} (hc : c < 65536) : jj_Ct l D aC base yn_MO_allowed yb_MO_allowed 2 (some .boolean) 1 0 0 [.int (nI c), .int (jb_I w)] h (fun r h' => r = some (.int (jb_I (pc_al c w))) ∧ h' = h) := by
  refine jj_start (tb := tb_MO_allowed) (by decide) tg_MO_allowed (Nat.le_of_ble_eq_true rfl) ?_
  intro p e s m args below meth cc C
  refine jj_go C 1 rfl ?_
  refine jj_callS C rfl ml_MO_95 wd_1002 (mo_isSmall hc) (rest := []) rfl rfl ⟨Nat.le_refl _, Nat.le_of_ble_eq_true rfl⟩ (Nat.le_refl _) (Nat.le_refl _) (Nat.zero_le _) ?_
  rintro r h' ⟨rfl, rfl⟩
  rcases jb_cases (pc_sm c) with ⟨e1, e2⟩ | ⟨e1, e2⟩
  · rw [e2]
    refine jj_if C rfl (fun z => absurd z (by decide)) (fun _ => ?_)
    refine jj_go C 2 rfl ?_
    exact jj_iret C rfl rfl rfl (Nat.le_refl _) (Nat.le_refl _) ⟨by simp [pc_al, e1, jb_I], rfl⟩
  rw [e2]
  refine jj_if C rfl (fun _ => ?_) (fun z => absurd rfl z)
  refine jj_go C 1 rfl ?_
  refine jj_callS C rfl ml_MO_99 wd_1005 (mo_isDigit hc) (rest := []) rfl rfl ⟨Nat.le_refl _, Nat.le_of_ble_eq_true rfl⟩ (Nat.le_refl _) (Nat.le_refl _) (Nat.zero_le _) ?_
  rintro r h' ⟨rfl, rfl⟩
  rcases jb_cases (pc_dg c) with ⟨d1, d2⟩ | ⟨d1, d2⟩
  · rw [d2]
    refine jj_if C rfl (fun z => absurd z (by decide)) (fun _ => ?_)
    refine jj_go C 2 rfl ?_
    exact jj_iret C rfl rfl rfl (Nat.le_refl _) (Nat.le_refl _) ⟨by simp [pc_al, d1, jb_I], rfl⟩
  rw [d2]
  refine jj_if C rfl (fun _ => ?_) (fun z => absurd rfl z)
  refine jj_go C 1 rfl ?_
  rcases jb_cases w with ⟨rfl, w2⟩ | ⟨rfl, w2⟩
  · refine jj_if C rfl (fun z => absurd (w2.symm.trans z) (by decide)) (fun _ => ?_)
    refine jj_go C 2 rfl ?_
    refine jj_if C rfl (fun z => ?_) (fun z => ?_)
    · have g := (nI_lit (k := 63) hc (by decide)).mp z
      refine jj_go C 2 rfl ?_
      exact jj_iret C rfl rfl rfl (Nat.le_refl _) (Nat.le_refl _) ⟨by simp [pc_al, g, jb_I], rfl⟩
    · have g : ¬ c = 63 := fun q => z ((nI_lit (k := 63) hc (by decide)).mpr q)
      refine jj_go C 2 rfl ?_
      refine jj_if C rfl (fun z2 => ?_) (fun z2 => ?_)
      · have g2 := (nI_lit (k := 42) hc (by decide)).mp z2
        refine jj_go C 2 rfl ?_
        exact jj_iret C rfl rfl rfl (Nat.le_refl _) (Nat.le_refl _) ⟨by simp [pc_al, g2, jb_I], rfl⟩
      · have g2 : ¬ c = 42 := fun q => z2 ((nI_lit (k := 42) hc (by decide)).mpr q)
        refine jj_go C 1 rfl ?_
        exact jj_iret C rfl rfl rfl (Nat.le_refl _) (Nat.le_refl _) ⟨by simp [pc_al, e1, d1, g, g2, jb_I], rfl⟩
  · refine jj_if C rfl (fun _ => ?_) (fun z => absurd w2 z)
    refine jj_go C 1 rfl ?_
    exact jj_iret C rfl rfl rfl (Nat.le_refl _) (Nat.le_refl _) ⟨by simp [pc_al, e1, d1, jb_I], rfl⟩
theorem mo_isPart {c : Nat} (hc : c < 65536) : jj_Ct l D aC base yn_MO_isPart yb_MO_isPart 1 (some .boolean) 0 0 0 [.int (nI c)] h (fun r h' => r = some (.int (jb_I (pc_pt c))) ∧ h' = h) := by
  refine jj_start (tb := tb_MO_isPart) (by decide) tg_MO_isPart (Nat.le_of_ble_eq_true rfl) ?_
  intro p e s m args below meth cc C
  refine jj_go C 1 rfl ?_
  refine jj_if C rfl (fun z => ?_) (fun z => ?_)
  · have g := (nI_lit (k := 0) hc (by decide)).mp z
    refine jj_go C 1 rfl ?_
    exact jj_iret C rfl rfl rfl (Nat.le_refl _) (Nat.le_refl _) ⟨by simp [pc_pt, g, jb_I], rfl⟩
  have g : ¬ c = 0 := fun q => z ((nI_lit (k := 0) hc (by decide)).mpr q)
  refine jj_go C 2 rfl ?_
  refine jj_if C rfl (fun z => ?_) (fun z => ?_)
  · have g := (nI_lit (k := 44) hc (by decide)).mp z
    refine jj_go C 1 rfl ?_
    exact jj_iret C rfl rfl rfl (Nat.le_refl _) (Nat.le_refl _) ⟨by simp [pc_pt, g, jb_I], rfl⟩
  have g2 : ¬ c = 44 := fun q => z ((nI_lit (k := 44) hc (by decide)).mpr q)
  refine jj_go C 2 rfl ?_
  refine jj_if C rfl (fun z => ?_) (fun z => ?_)
  · have g := (nI_lit (k := 58) hc (by decide)).mp z
    refine jj_go C 1 rfl ?_
    exact jj_iret C rfl rfl rfl (Nat.le_refl _) (Nat.le_refl _) ⟨by simp [pc_pt, g, jb_I], rfl⟩
  have g3 : ¬ c = 58 := fun q => z ((nI_lit (k := 58) hc (by decide)).mpr q)
  refine jj_go C 2 rfl ?_
  exact jj_iret C rfl rfl rfl (Nat.le_refl _) (Nat.le_refl _) ⟨by simp [pc_pt, g, g2, g3, jb_I], rfl⟩
theorem mo_same {y a0 a1 r1 r2 : Nat} {fs : List Value} {ρ : Nat → List Nat} (hT : jr_T aC h y a0 a1 fs ρ) (hr1 : r1 < 34) (hr2 : r2 < 34) : jj_Ct l D aC base yn_MO_same yb_MO_same 5 (some .boolean) 1 0 0 [.ref y, .int (nI r1), .int (nI r2)] h (fun q h' => q = some (.int (jb_I (decide (ρ r1 = ρ r2)))) ∧ h' = h) := by
  obtain ⟨hlen1, hch1⟩ := jr_T_len hT hr1
  obtain ⟨hlen2, hch2⟩ := jr_T_len hT hr2
  refine jj_start (tb := tb_MO_same) (by decide) tg_MO_same (Nat.le_of_ble_eq_true rfl) ?_
  intro p e s m args below meth cc C
  have hT' := hT
  obtain ⟨hy, f0, f1, hne, L, S, g0, g1, hR⟩ := hT'
  have s1 := (hR r1 hr1).1
  have s2 := (hR r2 hr2).1
  have loop : ∀ (k j : Nat) (v : Int32) (b : Bool), v = nI j → j + k = (ρ r1).length → (b = true ↔ (ρ r1).length = (ρ r2).length ∧ ∀ i, i < j → (ρ r1).getD i 0 = (ρ r2).getD i 0) →
      jj_J p l e (jj_rm 1 0 0) s m args below meth cc D base 5 (MQ below (jj_Q D base (fun q h' => q = some (.int (jb_I (decide (ρ r1 = ρ r2)))) ∧ h' = h)) args s 0 0 (jj_A base)) 24 [(0, .ref y), (1, .int (nI r1)), (2, .int (nI r2)), (3, .int (jb_I b)), (4, .int v)] [] h 0 0 := by
    intro k
    induction k with
    | zero =>
      intro j v b hv hk hb
      refine jj_go C 2 rfl ?_
      refine jj_getf C rfl fl_MO_13 hy f1 ?_
      refine jj_go C 1 rfl ?_
      refine jj_iald C rfl g1 rfl hr1 (by decide) ?_
      refine jj_top s1 ?_
      refine jj_if C rfl (fun _ => ?_) (fun hc => absurd (by rw [hv]; exact nI_le (by omega) (by omega)) hc)
      have hj : j = (ρ r1).length := by omega
      subst hj
      have hbe : b = decide (ρ r1 = ρ r2) := by
        rw [Bool.eq_iff_iff, hb, decide_eq_true_iff]
        exact ⟨fun z => px_ext z.1 z.2, fun z => ⟨by rw [z], fun i _ => by rw [z]⟩⟩
      refine jj_go C 1 rfl ?_
      rw [← hbe]
      rcases jb_cases b with ⟨rfl, _⟩ | ⟨rfl, _⟩
      · exact jj_iret C rfl rfl rfl (Nat.le_refl _) (Nat.le_refl _) ⟨rfl, rfl⟩
      · exact jj_iret C rfl rfl rfl (Nat.le_refl _) (Nat.le_refl _) ⟨rfl, rfl⟩
    | succ k ih =>
      intro j v b hv hk hb
      have hlt : j < (ρ r1).length := by omega
      refine jj_go C 2 rfl ?_
      refine jj_getf C rfl fl_MO_13 hy f1 ?_
      refine jj_go C 1 rfl ?_
      refine jj_iald C rfl g1 rfl hr1 (by decide) ?_
      refine jj_top s1 ?_
      refine jj_if C rfl (fun hc => absurd hc (by rw [hv]; exact nI_ge hlt (by omega))) (fun _ => ?_)
      refine jj_go C 1 rfl ?_
      rcases jb_cases b with ⟨rfl, hb1⟩ | ⟨rfl, hb1⟩
      · refine jj_if C rfl (fun z => absurd (hb1.symm.trans z) (by decide)) (fun _ => ?_)
        refine jj_go C 3 rfl ?_
        refine jj_callV C rfl ml_MO_83 wd_988 hy rfl se_MO_MO_get1 (mo_get1 (x := v) hT hr1) (rest := []) rfl rfl ⟨Nat.le_refl _, Nat.le_of_ble_eq_true rfl⟩ (Nat.le_refl _) (Nat.le_refl _) (Nat.zero_le _) ?_
        rintro q h' ⟨rfl, rfl⟩
        refine jj_go C 3 rfl ?_
        refine jj_callV C rfl ml_MO_83 wd_988 hy rfl se_MO_MO_get1 (mo_get1 (x := v) hT hr2) (rest := [.int (nI (jr_g (ρ r1) v))]) rfl rfl ⟨Nat.le_refl _, Nat.le_of_ble_eq_true rfl⟩ (Nat.le_refl _) (Nat.le_refl _) (Nat.le_of_ble_eq_true rfl) ?_
        rintro q h' ⟨rfl, rfl⟩
        have e1 : jr_g (ρ r1) v = (ρ r1).getD j 0 := by rw [hv, jr_g_n (by omega)]
        have e2 : jr_g (ρ r2) v = (ρ r2).getD j 0 := by rw [hv, jr_g_n (by omega)]
        rw [e1, e2]
        have c1 := hch1 j
        have c2 := hch2 j
        obtain ⟨hb2, hb3⟩ := hb.mp rfl
        refine jj_if C rfl (fun z => ?_) (fun z => ?_)
        · have g := (nI_eq (by omega) (by omega)).mp z
          refine jj_go C 5 rfl ?_
          exact ih (j + 1) (v + 1) true (by rw [hv, nI_1]) (by omega) ⟨fun _ => ⟨hb2, lt_s hb3 g⟩, fun _ => rfl⟩
        · have g : ¬ (ρ r1).getD j 0 = (ρ r2).getD j 0 := fun q => z (by rw [q])
          refine jj_go C 4 rfl ?_
          exact ih (j + 1) (v + 1) false (by rw [hv, nI_1]) (by omega) ⟨(fun q => by cases q), fun q => absurd (q.2 j (by omega)) g⟩
      · refine jj_if C rfl (fun _ => ?_) (fun z => absurd hb1 z)
        refine jj_go C 4 rfl ?_
        exact ih (j + 1) (v + 1) false (by rw [hv, nI_1]) (by omega) ⟨(fun q => by cases q), fun q => hb.mpr ⟨q.1, fun i hi => q.2 i (by omega)⟩⟩
  refine jj_go C 1 rfl ?_
  refine jj_getf C rfl fl_MO_13 hy f1 ?_
  refine jj_go C 1 rfl ?_
  refine jj_iald C rfl g1 rfl hr1 (by decide) ?_
  refine jj_top s1 ?_
  refine jj_go C 1 rfl ?_
  refine jj_getf C rfl fl_MO_13 hy f1 ?_
  refine jj_go C 1 rfl ?_
  refine jj_iald C rfl g1 rfl hr2 (by decide) ?_
  refine jj_top s2 ?_
  refine jj_if C rfl (fun z => ?_) (fun z => ?_)
  · have g := (nI_eq (by omega) (by omega)).mp z
    refine jj_go C 5 rfl ?_
    exact loop (ρ r1).length 0 0 true nI_0.symm (by omega) ⟨fun _ => ⟨g, fun i hi => absurd hi (Nat.not_lt_zero _)⟩, fun _ => rfl⟩
  · have g : ¬ (ρ r1).length = (ρ r2).length := fun q => z (by rw [q])
    refine jj_go C 4 rfl ?_
    exact loop (ρ r1).length 0 0 false nI_0.symm (by omega) ⟨(fun q => by cases q), fun q => absurd q.1 g⟩
/-- write: what it answers, and the text behind it -/
def px_write (t : List Nat) (c : Nat) : Bool := Nat.ble 32 c && (Nat.ble c 126 && !(t.length == 60))
theorem mo_write {y a0 a1 c : Nat} {fs : List Value} {ρ : Nat → List Nat} (hT : jr_T aC h y a0 a1 fs ρ) (hc : c < 65536) : jj_Ct l D aC base yn_MO_write yb_MO_write 2 (some .boolean) 1 0 0 [.ref y, .int (nI c)] h (fun q h' => q = some (.int (jb_I (px_write (ρ 33) c))) ∧ jr_T aC h' y a0 a1 fs (if px_write (ρ 33) c then jr_up ρ 33 (ρ 33 ++ [c]) else ρ) ∧ jj_fr [a0, a1] h h') := by
  obtain ⟨hlen, hch⟩ := jr_T_len hT (r := 33) (by decide)
  refine jj_start (tb := tb_MO_write) (by decide) tg_MO_write (Nat.le_of_ble_eq_true rfl) ?_
  intro p e s m args below meth cc C
  have hT' := hT
  obtain ⟨hy, f0, f1, hne, L, S, g0, g1, hR⟩ := hT'
  have s1 := (hR 33 (by decide)).1
  have no : px_write (ρ 33) c = false → jj_J p l e (jj_rm 1 0 0) s m args below meth cc D base 2 (MQ below (jj_Q D base (fun q h' => q = some (.int (jb_I (px_write (ρ 33) c))) ∧ jr_T aC h' y a0 a1 fs (if px_write (ρ 33) c then jr_up ρ 33 (ρ 33 ++ [c]) else ρ) ∧ jj_fr [a0, a1] h h')) args s 0 0 (jj_A base)) 24 [(0, .ref y), (1, .int (nI c))] [] h 0 0 := by
    intro hw
    refine jj_go C 1 rfl ?_
    exact jj_iret C rfl rfl rfl (Nat.le_refl _) (Nat.le_refl _) ⟨by rw [hw]; rfl, by rw [hw]; exact hT, jj_fr.rf⟩
  refine jj_go C 2 rfl ?_
  refine jj_if C rfl (fun z => ?_) (fun z => ?_)
  · have g := (nI_ltI (a := c) (b := 32) (by omega) (by decide)).mp z
    refine no ?_
    have : Nat.ble 32 c = false := by rw [Bool.eq_false_iff, Ne, Nat.ble_eq]; omega
    simp [px_write, this]
  have g : ¬ c < 32 := fun q => z ((nI_ltI (a := c) (b := 32) (by omega) (by decide)).mpr q)
  refine jj_go C 2 rfl ?_
  refine jj_if C rfl (fun z => ?_) (fun z => ?_)
  · have g2 := (nI_ltI (a := 126) (b := c) (by decide) (by omega)).mp z
    refine no ?_
    have : Nat.ble c 126 = false := by rw [Bool.eq_false_iff, Ne, Nat.ble_eq]; omega
    simp [px_write, this]
  have g2 : ¬ 126 < c := fun q => z ((nI_ltI (a := 126) (b := c) (by decide) (by omega)).mpr q)
  refine jj_go C 1 rfl ?_
  refine jj_getf C rfl fl_MO_13 hy f1 ?_
  refine jj_go C 1 rfl ?_
  refine jj_iald C (j := 33) rfl g1 rfl (by decide) (by decide) ?_
  refine jj_top s1 ?_
  refine jj_go C 1 rfl ?_
  refine jj_if C rfl (fun z => ?_) (fun z => ?_)
  · have g3 := (nI_eq (a := (ρ 33).length) (b := 60) (by omega) (by decide)).mp z
    refine no ?_
    simp [px_write, g3]
  have g3 : ¬ (ρ 33).length = 60 := fun q => z (by rw [q]; rfl)
  have hw : px_write (ρ 33) c = true := by
    have e1 : Nat.ble 32 c = true := Nat.ble_eq.mpr (by omega)
    have e2 : Nat.ble c 126 = true := Nat.ble_eq.mpr (by omega)
    simp [px_write, e1, e2, g3]
  refine jj_go C 3 rfl ?_
  refine jj_callV C rfl ml_MO_87 wd_968 hy rfl se_MO_MO_put (mo_put (r := 33) hT (by decide) (by omega) (by omega)) (rest := []) rfl rfl ⟨Nat.le_refl _, Nat.le_of_ble_eq_true rfl⟩ (Nat.le_refl _) (Nat.le_refl _) (Nat.zero_le _) ?_
  rintro q h1 ⟨rfl, hT1, hfr⟩
  refine jj_go C 1 rfl ?_
  exact jj_iret C rfl rfl rfl (Nat.le_refl _) (Nat.le_refl _) ⟨by rw [hw]; rfl, by rw [if_pos hw]; exact hT1, hfr⟩
end MK
