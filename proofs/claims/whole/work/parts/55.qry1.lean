/-! The reference: isOperator, isRelation, unit -/
/-- where the digits from q end -/
def px_de (t : List Nat) : Nat → Nat → Nat
  | 0, q => q
  | n + 1, q => if pc_dg (t.getD q 0) = true then px_de t n (q + 1) else q
/-- where a unit from p on ends -/
def px_un (t : List Nat) (p : Nat) : Option Nat := if 97 ≤ t.getD p 0 ∧ t.getD p 0 ≤ 101 then some (p + 1) else if px_de t 61 p = p ∨ p + 4 < px_de t 61 p then none else some (px_de t 61 p)
theorem pc_dg_len {t : List Nat} {q : Nat} (h : pc_dg (t.getD q 0) = true) : q < t.length := by
  by_cases hq : q < t.length
  · exact hq
  · rw [px_getD_ge (by omega)] at h
    cases h
section MQ1
variable {l : Launch} {D : va_G} {aC : Nat → ClassId} {base : Nat} {h : jjHp} {y : Nat} {ad : Nat → Nat} {rh : Nat → List Nat} {sg : Nat → Nat → Int32} {mu : Nat → Int64} {io : Nat → Int32}
theorem mo_isOperator {c : Nat} (hc : c < 65536) : jj_Ct l D aC base yn_MO_isOperator yb_MO_isOperator 1 (some .boolean) 0 0 0 [.int (nI c)] h (fun r h' => r = some (.int (jb_I (pc_op c))) ∧ h' = h) := by
  refine jj_start (tb := tb_MO_isOperator) (by decide) tg_MO_isOperator (Nat.le_of_ble_eq_true rfl) ?_
  intro p e s m args below meth cc C
  have yes : pc_op c = true → jj_J p l e (jj_rm 0 0 0) s m args below meth cc D base 1 (MQ below (jj_Q D base (fun r h' => r = some (.int (jb_I (pc_op c))) ∧ h' = h)) args s 0 0 (jj_A base)) 24 [(0, .int (nI c))] [] h 0 0 := by
    intro hq
    refine jj_go C 2 rfl ?_
    exact jj_iret C rfl rfl rfl (Nat.le_of_ble_eq_true rfl) (Nat.le_of_ble_eq_true rfl) ⟨by rw [hq]; rfl, rfl⟩
  refine jj_go C 2 rfl ?_
  refine jj_if C rfl (fun z => yes (by rw [(nI_lit (k := 43) hc (by decide)).mp z]; rfl)) (fun z1 => ?_)
  have g1 : ¬ c = 43 := fun q => z1 (by rw [q]; rfl)
  refine jj_go C 2 rfl ?_
  refine jj_if C rfl (fun z => yes (by rw [(nI_lit (k := 45) hc (by decide)).mp z]; rfl)) (fun z1 => ?_)
  have g2 : ¬ c = 45 := fun q => z1 (by rw [q]; rfl)
  refine jj_go C 2 rfl ?_
  refine jj_if C rfl (fun z => yes (by rw [(nI_lit (k := 42) hc (by decide)).mp z]; rfl)) (fun z1 => ?_)
  have g3 : ¬ c = 42 := fun q => z1 (by rw [q]; rfl)
  refine jj_go C 2 rfl ?_
  refine jj_if C rfl (fun z => yes (by rw [(nI_lit (k := 47) hc (by decide)).mp z]; rfl)) (fun z1 => ?_)
  have g4 : ¬ c = 47 := fun q => z1 (by rw [q]; rfl)
  refine jj_go C 1 rfl ?_
  exact jj_iret C rfl rfl rfl (Nat.le_of_ble_eq_true rfl) (Nat.le_of_ble_eq_true rfl) ⟨by simp [pc_op, g1, g2, g3, g4, jb_I], rfl⟩
theorem mo_isRelation {c : Nat} (hc : c < 65536) : jj_Ct l D aC base yn_MO_isRelation yb_MO_isRelation 1 (some .boolean) 0 0 0 [.int (nI c)] h (fun r h' => r = some (.int (jb_I (pc_rl c))) ∧ h' = h) := by
  refine jj_start (tb := tb_MO_isRelation) (by decide) tg_MO_isRelation (Nat.le_of_ble_eq_true rfl) ?_
  intro p e s m args below meth cc C
  have yes : pc_rl c = true → jj_J p l e (jj_rm 0 0 0) s m args below meth cc D base 1 (MQ below (jj_Q D base (fun r h' => r = some (.int (jb_I (pc_rl c))) ∧ h' = h)) args s 0 0 (jj_A base)) 24 [(0, .int (nI c))] [] h 0 0 := by
    intro hq
    refine jj_go C 2 rfl ?_
    exact jj_iret C rfl rfl rfl (Nat.le_of_ble_eq_true rfl) (Nat.le_of_ble_eq_true rfl) ⟨by rw [hq]; rfl, rfl⟩
  refine jj_go C 2 rfl ?_
  refine jj_if C rfl (fun z => yes (by rw [(nI_lit (k := 61) hc (by decide)).mp z]; rfl)) (fun z1 => ?_)
  have g1 : ¬ c = 61 := fun q => z1 (by rw [q]; rfl)
  refine jj_go C 2 rfl ?_
  refine jj_if C rfl (fun z => yes (by rw [(nI_lit (k := 60) hc (by decide)).mp z]; rfl)) (fun z1 => ?_)
  have g2 : ¬ c = 60 := fun q => z1 (by rw [q]; rfl)
  refine jj_go C 2 rfl ?_
  refine jj_if C rfl (fun z => yes (by rw [(nI_lit (k := 62) hc (by decide)).mp z]; rfl)) (fun z1 => ?_)
  have g3 : ¬ c = 62 := fun q => z1 (by rw [q]; rfl)
  refine jj_go C 2 rfl ?_
  refine jj_if C rfl (fun z => yes (by rw [(nI_lit (k := 35) hc (by decide)).mp z]; rfl)) (fun z1 => ?_)
  have g4 : ¬ c = 35 := fun q => z1 (by rw [q]; rfl)
  refine jj_go C 1 rfl ?_
  exact jj_iret C rfl rfl rfl (Nat.le_of_ble_eq_true rfl) (Nat.le_of_ble_eq_true rfl) ⟨by simp [pc_rl, g1, g2, g3, g4, jb_I], rfl⟩
theorem rr_unit {p0 : Nat} (hR : RR aC h y ad rh sg mu io) (hp0 : p0 ≤ 100) : jj_Ct l D aC base yn_MO_unit yb_MO_unit 4 (some .int) 1 0 0 [.ref y, .int (nI p0)] h (fun q h' => q = some (.int (px_oi (px_un (rh 31) p0))) ∧ h' = h) := by
  obtain ⟨hlen, hch⟩ := hR.len (r := 31) (by decide)
  refine jj_start (tb := tb_MO_unit) (by decide) tg_MO_unit (Nat.le_of_ble_eq_true rfl) ?_
  intro p e s m args below meth cc C
  have hy := hR.oy
  have hc0 := hch p0
  have digits : ¬ (97 ≤ (rh 31).getD p0 0 ∧ (rh 31).getD p0 0 ≤ 101) → ∀ (k q : Nat) (v : Int32), v = nI q → (rh 31).length < q + k ∨ k = 0 ∧ (rh 31).length ≤ q → p0 ≤ q → q ≤ 200 → px_de (rh 31) k q = px_de (rh 31) 61 p0 → jj_J p l e (jj_rm 1 0 0) s m args below meth cc D base 4 (MQ below (jj_Q D base (fun q h' => q = some (.int (px_oi (px_un (rh 31) p0))) ∧ h' = h)) args s 0 0 (jj_A base)) 26 [(0, .ref y), (1, .int (nI p0)), (2, .int (nI ((rh 31).getD p0 0))), (3, .int v)] [] h 0 0 := by
    intro hno
    have fin : ∀ v : Int32, v = nI (px_de (rh 31) 61 p0) → p0 ≤ px_de (rh 31) 61 p0 → px_de (rh 31) 61 p0 ≤ 200 → jj_J p l e (jj_rm 1 0 0) s m args below meth cc D base 4 (MQ below (jj_Q D base (fun q h' => q = some (.int (px_oi (px_un (rh 31) p0))) ∧ h' = h)) args s 0 0 (jj_A base)) 45 [(0, .ref y), (1, .int (nI p0)), (2, .int (nI ((rh 31).getD p0 0))), (3, .int v)] [] h 0 0 := by
      intro v hv hge hle
      have hun : px_un (rh 31) p0 = if px_de (rh 31) 61 p0 = p0 ∨ p0 + 4 < px_de (rh 31) 61 p0 then none else some (px_de (rh 31) 61 p0) := if_neg hno
      generalize px_de (rh 31) 61 p0 = E at hv hge hle hun
      subst hv
      refine jj_go C 2 rfl ?_
      refine jj_if C rfl (fun z => ?_) (fun z => ?_)
      · have g := (nI_eq (a := E) (b := p0) (by omega) (by omega)).mp z
        rw [if_pos (Or.inl g)] at hun
        refine jj_go C 2 rfl ?_
        exact jj_iret C rfl rfl rfl (Nat.le_of_ble_eq_true rfl) (Nat.le_of_ble_eq_true rfl) ⟨by rw [hun]; rfl, rfl⟩
      · have g : ¬ E = p0 := fun q => z (by rw [q])
        refine jj_go C 4 rfl ?_
        refine jj_top (show nI p0 + 4 = nI (p0 + 4) from nI_add p0 4) ?_
        refine jj_if C rfl (fun z2 => ?_) (fun z2 => ?_)
        · have g2 := (nI_leI (a := E) (b := p0 + 4) (by omega) (by omega)).mp z2
          rw [if_neg (by omega)] at hun
          refine jj_go C 1 rfl ?_
          exact jj_iret C rfl rfl rfl (Nat.le_of_ble_eq_true rfl) (Nat.le_of_ble_eq_true rfl) ⟨by rw [hun]; rfl, rfl⟩
        · have g2 : ¬ E ≤ p0 + 4 := fun q => z2 ((nI_leI (a := E) (b := p0 + 4) (by omega) (by omega)).mpr q)
          rw [if_pos (by omega)] at hun
          refine jj_go C 2 rfl ?_
          exact jj_iret C rfl rfl rfl (Nat.le_of_ble_eq_true rfl) (Nat.le_of_ble_eq_true rfl) ⟨by rw [hun]; rfl, rfl⟩
    intro k
    induction k with
    | zero =>
      intro q v hv hk hpq hq hG
      have hG : q = px_de (rh 31) 61 p0 := hG
      have hcq := hch q
      refine jj_go C 3 rfl ?_
      refine jj_callV C rfl ml_MO_83 wd_988 hy rfl se_MO_MO_get1 (rr_get1 (r := 31) (x := v) hR (by decide)) (rest := []) rfl rfl ⟨Nat.le_of_ble_eq_true rfl, Nat.le_of_ble_eq_true rfl⟩ (Nat.le_of_ble_eq_true rfl) (Nat.le_of_ble_eq_true rfl) (Nat.le_of_ble_eq_true rfl) ?_
      rintro q9 h9 ⟨rfl, hh9⟩
      rw [hh9]
      have eg : jr_g (rh 31) v = (rh 31).getD q 0 := by rw [hv, jr_g_n (by omega)]
      rw [eg]
      refine jj_callS C rfl ml_MO_99 wd_1005 (mo_isDigit (c := (rh 31).getD q 0) (by omega)) (rest := []) rfl rfl ⟨Nat.le_of_ble_eq_true rfl, Nat.le_of_ble_eq_true rfl⟩ (Nat.le_of_ble_eq_true rfl) (Nat.le_of_ble_eq_true rfl) (Nat.le_of_ble_eq_true rfl) ?_
      rintro q9 h9 ⟨rfl, hh9⟩
      rw [hh9]
      have hf : pc_dg ((rh 31).getD q 0) = false := by
        rw [Bool.eq_false_iff]
        intro z
        have := pc_dg_len z
        omega
      rw [hf]
      refine jj_if C rfl (fun _ => ?_) (fun z => absurd rfl z)
      exact fin v (by rw [hv, hG]) (by omega) (by omega)
    | succ k ih =>
      intro q v hv hk hpq hq hG
      have hG : (if pc_dg ((rh 31).getD q 0) = true then px_de (rh 31) k (q + 1) else q) = px_de (rh 31) 61 p0 := hG
      have hcq := hch q
      refine jj_go C 3 rfl ?_
      refine jj_callV C rfl ml_MO_83 wd_988 hy rfl se_MO_MO_get1 (rr_get1 (r := 31) (x := v) hR (by decide)) (rest := []) rfl rfl ⟨Nat.le_of_ble_eq_true rfl, Nat.le_of_ble_eq_true rfl⟩ (Nat.le_of_ble_eq_true rfl) (Nat.le_of_ble_eq_true rfl) (Nat.le_of_ble_eq_true rfl) ?_
      rintro q9 h9 ⟨rfl, hh9⟩
      rw [hh9]
      have eg : jr_g (rh 31) v = (rh 31).getD q 0 := by rw [hv, jr_g_n (by omega)]
      rw [eg]
      refine jj_callS C rfl ml_MO_99 wd_1005 (mo_isDigit (c := (rh 31).getD q 0) (by omega)) (rest := []) rfl rfl ⟨Nat.le_of_ble_eq_true rfl, Nat.le_of_ble_eq_true rfl⟩ (Nat.le_of_ble_eq_true rfl) (Nat.le_of_ble_eq_true rfl) (Nat.le_of_ble_eq_true rfl) ?_
      rintro q9 h9 ⟨rfl, hh9⟩
      rw [hh9]
      rcases jb_cases (pc_dg ((rh 31).getD q 0)) with ⟨e1, e2⟩ | ⟨e1, e2⟩
      · rw [e2]
        rw [if_pos e1] at hG
        have := pc_dg_len e1
        refine jj_if C rfl (fun z => absurd z (by decide)) (fun _ => ?_)
        refine jj_go C 2 rfl ?_
        exact ih (q + 1) (v + 1) (by rw [hv, nI_1]) (by omega) (by omega) (by omega) hG
      · rw [e2]
        rw [if_neg (by rw [e1]; decide)] at hG
        refine jj_if C rfl (fun _ => ?_) (fun z => absurd rfl z)
        exact fin v (by rw [hv, hG]) (by omega) (by omega)
  refine jj_go C 3 rfl ?_
  refine jj_callV C rfl ml_MO_83 wd_988 hy rfl se_MO_MO_get1 (rr_get1 (r := 31) (x := nI p0) hR (by decide)) (rest := []) rfl rfl ⟨Nat.le_of_ble_eq_true rfl, Nat.le_of_ble_eq_true rfl⟩ (Nat.le_of_ble_eq_true rfl) (Nat.le_of_ble_eq_true rfl) (Nat.le_of_ble_eq_true rfl) ?_
  rintro q9 h9 ⟨rfl, hh9⟩
  rw [hh9]
  rw [jr_g_n (by omega)]
  refine jj_go C 3 rfl ?_
  refine jj_if C rfl (fun z => ?_) (fun z => ?_)
  · have g := (nI_ltI (a := (rh 31).getD p0 0) (b := 97) (by omega) (by decide)).mp z
    refine jj_go C 2 rfl ?_
    exact digits (by omega) 61 p0 _ rfl (by omega) (Nat.le_refl _) (by omega) rfl
  · have g : ¬ (rh 31).getD p0 0 < 97 := fun q => z ((nI_ltI (a := (rh 31).getD p0 0) (b := 97) (by omega) (by decide)).mpr q)
    refine jj_go C 2 rfl ?_
    refine jj_if C rfl (fun z2 => ?_) (fun z2 => ?_)
    · have g2 := (nI_ltI (a := 101) (b := (rh 31).getD p0 0) (by decide) (by omega)).mp z2
      refine jj_go C 2 rfl ?_
      exact digits (by omega) 61 p0 _ rfl (by omega) (Nat.le_refl _) (by omega) rfl
    · have g2 : ¬ 101 < (rh 31).getD p0 0 := fun q => z2 ((nI_ltI (a := 101) (b := (rh 31).getD p0 0) (by decide) (by omega)).mpr q)
      have hun : px_un (rh 31) p0 = some (p0 + 1) := if_pos (by omega)
      refine jj_go C 3 rfl ?_
      refine jj_top (nI_1 p0) ?_
      exact jj_iret C rfl rfl rfl (Nat.le_of_ble_eq_true rfl) (Nat.le_of_ble_eq_true rfl) ⟨by rw [hun]; rfl, rfl⟩
end MQ1
