/-! The reference: copy, same, take, write, colon -/
theorem jr_R_clear {L S : Nat → Int32} {ρ : Nat → List Nat} {t : Nat} (hR : jr_R L S ρ) : jr_R L (upd S t 0) (jr_up ρ t []) := by
  intro q hq
  by_cases hqt : q = t
  · subst hqt
    rw [jr_up_s]
    exact ⟨by simp only [upd, if_pos]; rfl, Nat.zero_le _, fun i hi => absurd hi (Nat.not_lt_zero _)⟩
  · rw [jr_up_n hqt]
    simp only [upd, if_neg hqt]
    exact hR q hq
theorem jr_T_len {aC : Nat → ClassId} {h : jjHp} {y a0 a1 : Nat} {fs : List Value} {ρ : Nat → List Nat} (hT : jr_T aC h y a0 a1 fs ρ) {r : Nat} (hr : r < 34) : (ρ r).length ≤ 60 ∧ ∀ i, (ρ r).getD i 0 < 128 := by
  obtain ⟨hy, f0, f1, hne, L, S, h0, h1, hR⟩ := hT
  obtain ⟨r1, r2, r3⟩ := hR r hr
  exact ⟨r2, jr_lt (fun i hi => (r3 i hi).2)⟩
theorem px_take_succ {t : List Nat} {j : Nat} (hj : j < t.length) : t.take j ++ [t.getD j 0] = t.take (j + 1) := by
  rw [List.take_succ_eq_append_getElem hj, List.getD_eq_getElem?_getD, List.getElem?_eq_getElem hj]
  rfl
theorem px_ext {t u : List Nat} (hl : t.length = u.length) (h : ∀ i, i < t.length → t.getD i 0 = u.getD i 0) : t = u := by
  refine List.ext_getElem hl (fun i h1 h2 => ?_)
  have := h i h1
  rw [List.getD_eq_getElem?_getD, List.getD_eq_getElem?_getD, List.getElem?_eq_getElem h1, List.getElem?_eq_getElem h2] at this
  exact this
/-- where the first ':' stands; the length if none does -/
def px_col : List Nat → Nat
  | [] => 0
  | c :: r => if c = 58 then 0 else px_col r + 1
theorem px_col_eq : ∀ (t : List Nat) (j : Nat), j ≤ t.length → (∀ i, i < j → ¬ t.getD i 0 = 58) → (j = t.length ∨ t.getD j 0 = 58) → px_col t = j
  | [], j, hj, _, _ => by
    have : j = 0 := by simpa using hj
    subst this
    rfl
  | c :: r, j, hj, hb, he => by
    unfold px_col
    cases j with
    | zero =>
      rcases he with he | he
      · simp at he
      · rw [if_pos (by simpa using he)]
    | succ j =>
      have h0 : ¬ c = 58 := by simpa using hb 0 (by omega)
      rw [if_neg h0, px_col_eq r j (by simpa using hj) (fun i hi => by simpa using hb (i + 1) (by omega)) (by simpa using he)]
theorem px_col_le : ∀ t : List Nat, px_col t ≤ t.length
  | [] => Nat.le_refl _
  | c :: r => by
    unfold px_col
    split
    · exact Nat.zero_le _
    · have := px_col_le r
      simp only [List.length_cons]
      omega
section MS
variable {l : Launch} {D : va_G} {aC : Nat → ClassId} {base : Nat} {h : jjHp}
theorem mo_copy {y a0 a1 f t : Nat} {fs : List Value} {ρ : Nat → List Nat} (hT : jr_T aC h y a0 a1 fs ρ) (hf : f < 34) (ht : t < 34) (hft : f ≠ t) : jj_Ct l D aC base yn_MO_copy yb_MO_copy 4 none 1 0 0 [.ref y, .int (nI f), .int (nI t)] h (fun q h' => q = none ∧ jr_T aC h' y a0 a1 fs (jr_up ρ t (ρ f)) ∧ jj_fr [a0, a1] h h') := by
  obtain ⟨hlen, hch⟩ := jr_T_len hT hf
  refine jj_start (tb := tb_MO_copy) (by decide) tg_MO_copy (Nat.le_of_ble_eq_true rfl) ?_
  intro p e s m args below meth cc C
  have loop : ∀ (k j : Nat) (v : Int32) (h1 : jjHp), v = nI j → j + k = (ρ f).length → jr_T aC h1 y a0 a1 fs (jr_up ρ t ((ρ f).take j)) → jj_fr [a0, a1] h h1 →
      jj_J p l e (jj_rm 1 0 0) s m args below meth cc D base 4 (MQ below (jj_Q D base (fun q h' => q = none ∧ jr_T aC h' y a0 a1 fs (jr_up ρ t (ρ f)) ∧ jj_fr [a0, a1] h h')) args s 0 0 (jj_A base)) 9 [(0, .ref y), (1, .int (nI f)), (2, .int (nI t)), (3, .int v)] [] h1 0 0 := by
    intro k
    induction k with
    | zero =>
      intro j v h1 hv hk hT1 hfr
      have hT1' := hT1
      obtain ⟨hy, f0, f1, hne, L, S, g0, g1, hR⟩ := hT1'
      have r1 := (hR f hf).1
      rw [jr_up_n hft] at r1
      refine jj_go C 2 rfl ?_
      refine jj_getf C rfl fl_MO_13 hy f1 ?_
      refine jj_go C 1 rfl ?_
      refine jj_iald C rfl g1 rfl hf (by decide) ?_
      refine jj_top r1 ?_
      refine jj_if C rfl (fun _ => ?_) (fun hc => absurd (by rw [hv]; exact nI_le (by omega) (by omega)) hc)
      refine jj_vret C rfl rfl (Nat.le_refl _) (Nat.le_refl _) ⟨rfl, ?_, hfr⟩
      rw [show (ρ f).take j = ρ f by rw [List.take_of_length_le (by omega)]] at hT1
      exact hT1
    | succ k ih =>
      intro j v h1 hv hk hT1 hfr
      have hT1' := hT1
      obtain ⟨hy, f0, f1, hne, L, S, g0, g1, hR⟩ := hT1'
      have r1 := (hR f hf).1
      rw [jr_up_n hft] at r1
      have hlt : j < (ρ f).length := by omega
      refine jj_go C 2 rfl ?_
      refine jj_getf C rfl fl_MO_13 hy f1 ?_
      refine jj_go C 1 rfl ?_
      refine jj_iald C rfl g1 rfl hf (by decide) ?_
      refine jj_top r1 ?_
      refine jj_if C rfl (fun hc => absurd hc (by rw [hv]; exact nI_ge hlt (by omega))) (fun _ => ?_)
      refine jj_go C 5 rfl ?_
      refine jj_callV C rfl ml_MO_83 wd_988 hy rfl se_MO_MO_get1 (mo_get1 (x := v) hT1 hf) (rest := [.int (nI t), .ref y]) rfl rfl ⟨Nat.le_refl _, Nat.le_of_ble_eq_true rfl⟩ (Nat.le_refl _) (Nat.le_refl _) (Nat.le_of_ble_eq_true rfl) ?_
      rintro r h' ⟨rfl, rfl⟩
      have hg : jr_g (jr_up ρ t ((ρ f).take j) f) v = (ρ f).getD j 0 := by rw [jr_up_n hft, hv, jr_g_n (by omega)]
      have hrow : jr_up ρ t ((ρ f).take j) t = (ρ f).take j := jr_up_s
      rw [hg]
      refine jj_callV C rfl ml_MO_87 wd_968 hy rfl se_MO_MO_put (mo_put hT1 ht (by rw [hrow, List.length_take]; omega) (hch j)) (rest := []) rfl rfl ⟨Nat.le_refl _, Nat.le_of_ble_eq_true rfl⟩ (Nat.le_refl _) (Nat.le_refl _) (Nat.zero_le _) ?_
      rintro r h2 ⟨rfl, hT2, hfr2⟩
      refine jj_go C 2 rfl ?_
      rw [hrow, px_take_succ hlt, jr_up_up] at hT2
      exact ih (j + 1) (v + 1) h2 (by rw [hv, nI_1]) (by omega) hT2 (hfr.tr hfr2)
  have hT' := hT
  obtain ⟨hy, f0, f1, hne, L, S, g0, g1, hR⟩ := hT'
  have n1 : a1 ≠ y := kx_ne (m := 0) (aC := aC) hy g1
  refine jj_go C 1 rfl ?_
  refine jj_getf C rfl fl_MO_13 hy f1 ?_
  refine jj_go C 2 rfl ?_
  refine jj_iast C rfl g1 rfl ht (by decide) ?_
  refine jj_go C 2 rfl ?_
  refine loop (ρ f).length 0 0 _ nI_0.symm (by omega) ⟨(jj_up_n (Ne.symm n1)).trans hy, f0, f1, hne, L, upd S t 0, (jj_up_n hne).trans g0, jj_up_s, jr_R_clear hR⟩ (jj_fr.rf.up (Or.inl (List.mem_cons_of_mem _ List.mem_cons_self)))
theorem mo_take {y a0 a1 : Nat} {fs : List Value} {ρ : Nat → List Nat} (hT : jr_T aC h y a0 a1 fs ρ) : jj_Ct l D aC base yn_MO_take yb_MO_take 1 none 2 0 0 [.ref y] h (fun q h' => q = none ∧ jr_T aC h' y a0 a1 fs (jr_up (jr_up ρ 31 (ρ 33)) 33 []) ∧ jj_fr [a0, a1] h h') := by
  refine jj_start (tb := tb_MO_take) (by decide) tg_MO_take (Nat.le_of_ble_eq_true rfl) ?_
  intro p e s m args below meth cc C
  refine jj_go C 3 rfl ?_
  refine jj_callV C rfl ml_MO_91 wd_984 hT.1 rfl se_MO_MO_copy (mo_copy (f := 33) (t := 31) hT (by decide) (by decide) (by decide)) (rest := []) rfl rfl ⟨Nat.le_refl _, Nat.le_of_ble_eq_true rfl⟩ (Nat.le_refl _) (Nat.le_refl _) (Nat.zero_le _) ?_
  rintro r h1 ⟨rfl, hT1, hfr⟩
  obtain ⟨hy, f0, f1, hne, L, S, g0, g1, hR⟩ := hT1
  have n1 : a1 ≠ y := kx_ne (m := 0) (aC := aC) hy g1
  refine jj_go C 1 rfl ?_
  refine jj_getf C rfl fl_MO_13 hy f1 ?_
  refine jj_go C 2 rfl ?_
  refine jj_iast C (j := 33) rfl g1 rfl (by decide) (by decide) ?_
  exact jj_vret C rfl rfl (Nat.le_refl _) (Nat.le_refl _) ⟨rfl, ⟨(jj_up_n (Ne.symm n1)).trans hy, f0, f1, hne, L, upd S 33 0, (jj_up_n hne).trans g0, jj_up_s, jr_R_clear hR⟩, hfr.up (Or.inl (List.mem_cons_of_mem _ List.mem_cons_self))⟩
theorem mo_colon {y a0 a1 r : Nat} {fs : List Value} {ρ : Nat → List Nat} (hT : jr_T aC h y a0 a1 fs ρ) (hr : r < 34) : jj_Ct l D aC base yn_MO_colon yb_MO_colon 3 (some .int) 1 0 0 [.ref y, .int (nI r)] h (fun q h' => q = some (.int (nI (px_col (ρ r)))) ∧ h' = h) := by
  obtain ⟨hlen, hch⟩ := jr_T_len hT hr
  refine jj_start (tb := tb_MO_colon) (by decide) tg_MO_colon (Nat.le_of_ble_eq_true rfl) ?_
  intro p e s m args below meth cc C
  have hT' := hT
  obtain ⟨hy, f0, f1, hne, L, S, g0, g1, hR⟩ := hT'
  have r1 := (hR r hr).1
  have loop : ∀ (k j : Nat) (v : Int32), v = nI j → j + k = (ρ r).length → (∀ i, i < j → ¬ (ρ r).getD i 0 = 58) →
      jj_J p l e (jj_rm 1 0 0) s m args below meth cc D base 3 (MQ below (jj_Q D base (fun q h' => q = some (.int (nI (px_col (ρ r)))) ∧ h' = h)) args s 0 0 (jj_A base)) 2 [(0, .ref y), (1, .int (nI r)), (2, .int v)] [] h 0 0 := by
    intro k
    induction k with
    | zero =>
      intro j v hv hk hb
      refine jj_go C 2 rfl ?_
      refine jj_getf C rfl fl_MO_13 hy f1 ?_
      refine jj_go C 1 rfl ?_
      refine jj_iald C rfl g1 rfl hr (by decide) ?_
      refine jj_top r1 ?_
      refine jj_if C rfl (fun _ => ?_) (fun hc => absurd (by rw [hv]; exact nI_le (by omega) (by omega)) hc)
      refine jj_go C 1 rfl ?_
      refine jj_iret C rfl rfl rfl (Nat.le_refl _) (Nat.le_refl _) ⟨?_, rfl⟩
      rw [px_col_eq (ρ r) j (by omega) hb (Or.inl (by omega)), hv]
    | succ k ih =>
      intro j v hv hk hb
      have hlt : j < (ρ r).length := by omega
      refine jj_go C 2 rfl ?_
      refine jj_getf C rfl fl_MO_13 hy f1 ?_
      refine jj_go C 1 rfl ?_
      refine jj_iald C rfl g1 rfl hr (by decide) ?_
      refine jj_top r1 ?_
      refine jj_if C rfl (fun hc => absurd hc (by rw [hv]; exact nI_ge hlt (by omega))) (fun _ => ?_)
      refine jj_go C 3 rfl ?_
      refine jj_callV C rfl ml_MO_83 wd_988 hy rfl se_MO_MO_get1 (mo_get1 (x := v) hT hr) (rest := []) rfl rfl ⟨Nat.le_refl _, Nat.le_of_ble_eq_true rfl⟩ (Nat.le_refl _) (Nat.le_refl _) (Nat.zero_le _) ?_
      rintro q h' ⟨rfl, rfl⟩
      have hg : jr_g (ρ r) v = (ρ r).getD j 0 := by rw [hv, jr_g_n (by omega)]
      rw [hg]
      have hcj := hch j
      refine jj_go C 1 rfl ?_
      refine jj_if C rfl (fun hc => ?_) (fun hc => ?_)
      · have h58 := (nI_eq (a := (ρ r).getD j 0) (b := 58) (by omega) (by decide)).mp hc
        refine jj_go C 1 rfl ?_
        refine jj_iret C rfl rfl rfl (Nat.le_refl _) (Nat.le_refl _) ⟨?_, rfl⟩
        rw [px_col_eq (ρ r) j (by omega) hb (Or.inr h58), hv]
      · refine jj_go C 2 rfl ?_
        exact ih (j + 1) (v + 1) (by rw [hv, nI_1]) (by omega) (lt_s hb (fun z => hc (by rw [z]; rfl)))
  refine jj_go C 2 rfl ?_
  exact loop (ρ r).length 0 0 nI_0.symm (by omega) (fun i hi => absurd hi (Nat.not_lt_zero _))
end MS
