/-! The reference: give, copyProperty, order, takeName -/
def gv_on (io : Nat → Int32) (k : Int32) : Prop := ¬ (io 16 >>> (k &&& 31)) &&& 1 = 0
theorem nI_m1 {j : Nat} : nI (j + 1) + (-1) = nI j := by
  rw [← nI_1, Int32.add_assoc, show (1 : Int32) + (-1) = 0 by decide, Int32.add_zero]
def gv_log (f : Nat → Int32) (g k s v : Int32) : Nat → Int32 := fun i => if i = 0 then g else if i = 1 then k else if i = 2 then s else if i = 3 then v else if i < 64 then f (i - 4) else f i
section MG
variable {l : Launch} {D : va_G} {aC : Nat → ClassId} {base : Nat} {h : jjHp} {y : Nat} {ad : Nat → Nat} {rh : Nat → List Nat} {sg : Nat → Nat → Int32} {mu : Nat → Int64} {io : Nat → Int32}
theorem rr_give_f {k s0 v0 : Int32} (hR : RR aC h y ad rh sg mu io) (hg : ¬ gv_on io k) : jj_Ct l D aC base yn_MO_give yb_MO_give 5 none 0 0 0 [.ref y, .int k, .int s0, .int v0] h (fun q h' => q = none ∧ RR aC h' y ad rh sg mu (upd io 15 (io 15 + 1)) ∧ jj_fr (rr_S y ad) h h') := by
  refine jj_start (tb := tb_MO_give) (by decide) tg_MO_give (Nat.le_of_ble_eq_true rfl) ?_
  intro p e s m args below meth cc C
  have hy := hR.oy
  refine jj_go C 2 rfl ?_
  refine jj_getf C rfl fl_MO_151 hy rfl ?_
  refine jj_go C 2 rfl ?_
  refine jj_putf C rfl fl_MO_151 hy rfl rfl (Nat.le_of_ble_eq_true rfl) ?_
  have hR1 : RR aC (jj_up h y (.inr (9, (rr_fs ad io).set 15 (.int (io 15 + 1))))) y ad rh sg mu (upd io 15 (io 15 + 1)) := hR.put rfl
  have hf1 : jj_fr (rr_S y ad) h (jj_up h y (.inr (9, (rr_fs ad io).set 15 (.int (io 15 + 1))))) := jj_fr.rf.up (Or.inl rr_S_y)
  generalize (jj_up h y (.inr (9, (rr_fs ad io).set 15 (.int (io 15 + 1))))) = h1 at hR1 hf1 ⊢
  refine jj_go C 1 rfl ?_
  refine jj_getf C rfl fl_MO_58 hR1.oy rfl ?_
  refine jj_go C 4 rfl ?_
  refine jj_if C rfl (fun z => ?_) (fun z => absurd z hg)
  exact jj_vret C rfl rfl (Nat.le_of_ble_eq_true rfl) (Nat.le_of_ble_eq_true rfl) ⟨rfl, hR1, hf1⟩
theorem rr_give_t {k s0 v0 : Int32} (hR : RR aC h y ad rh sg mu io) (hg : gv_on io k) : jj_Ct l D aC base yn_MO_give yb_MO_give 5 none 0 0 0 [.ref y, .int k, .int s0, .int v0] h (fun q h' => q = none ∧ RR aC h' y ad rh (va_up sg 18 (gv_log (sg 18) (io 15 + 1) k s0 v0)) mu (upd (upd io 15 (io 15 + 1)) 17 (if io 17 < 16 then io 17 + 1 else 16)) ∧ jj_fr (rr_S y ad) h h') := by
  refine jj_start (tb := tb_MO_give) (by decide) tg_MO_give (Nat.le_of_ble_eq_true rfl) ?_
  intro p e s m args below meth cc C
  have hy := hR.oy
  -- the shift
  have loop : ∀ (j : Nat) (v : Int32) (F : Nat → Int32) (h1 : jjHp), v = nI (j + 3) → j ≤ 60 → (∀ i, F i = if j + 3 < i ∧ i < 64 then sg 18 (i - 4) else sg 18 i) → RR aC h1 y ad rh (va_up sg 18 F) mu (upd io 15 (io 15 + 1)) → jj_fr (rr_S y ad) h h1 → jj_J p l e (jj_rm 0 0 0) s m args below meth cc D base 5 (MQ below (jj_Q D base (fun q h' => q = none ∧ RR aC h' y ad rh (va_up sg 18 (gv_log (sg 18) (io 15 + 1) k s0 v0)) mu (upd (upd io 15 (io 15 + 1)) 17 (if io 17 < 16 then io 17 + 1 else 16)) ∧ jj_fr (rr_S y ad) h h')) args s 0 0 (jj_A base)) 26 [(0, .ref y), (1, .int k), (2, .int s0), (3, .int v0), (4, .int v)] [] h1 0 0 := by
    intro j
    induction j with
    | zero =>
      intro v F h1 hv hj hF hR1 hf1
      refine jj_go C 2 rfl ?_
      refine jj_if C rfl (fun _ => ?_) (fun z => absurd (by rw [hv]; decide) z)
      have hs : va_up (va_up (va_up (va_up (va_up sg 18 F) 18 (upd F 0 (io 15 + 1))) 18 (upd (upd F 0 (io 15 + 1)) 1 k)) 18 (upd (upd (upd F 0 (io 15 + 1)) 1 k) 2 s0)) 18 (upd (upd (upd (upd F 0 (io 15 + 1)) 1 k) 2 s0) 3 v0) = va_up sg 18 (gv_log (sg 18) (io 15 + 1) k s0 v0) := by
        simp only [bx_uu]
        congr 1
        funext i
        unfold gv_log
        by_cases i0 : i = 0
        · subst i0; rfl
        by_cases i1 : i = 1
        · subst i1; rfl
        by_cases i2 : i = 2
        · subst i2; rfl
        by_cases i3 : i = 3
        · subst i3; rfl
        simp only [upd, if_neg i0, if_neg i1, if_neg i2, if_neg i3]
        rw [hF i]
        by_cases hi : i < 64
        · rw [if_pos ⟨by omega, hi⟩, if_pos hi]
        · rw [if_neg (fun q => hi q.2), if_neg hi]
      rw [← hs]
      refine jj_go C 1 rfl ?_
      refine jj_getf C rfl fl_MO_62 hR1.oy rfl ?_
      refine jj_go C 2 rfl ?_
      refine jj_getf C rfl fl_MO_151 hR1.oy rfl ?_
      refine jj_iast C (n := 64) (f := F) (j := 0) rfl (hR1.oc (k := 18) (by decide) (by decide) (by decide)) rfl (by decide) (by decide) ?_
      have hR2 := hR1.set (k := 18) (by decide) (by decide) (by decide) (upd F 0 (io 15 + 1))
      have hf2 := hf1.up (a := ad 18) (x := .inl (aC (rr_ty 18), rr_len 18, .inl (upd F 0 (io 15 + 1)))) (Or.inl (rr_S_k (by decide)))
      generalize hh2 : (jj_up h1 (ad 18) (.inl (aC (rr_ty 18), rr_len 18, .inl (upd F 0 (io 15 + 1))))) = h2 at hR2 hf2
      refine jj_eq (h' := h2) rfl rfl rfl hh2 ?_
      refine jj_go C 1 rfl ?_
      refine jj_getf C rfl fl_MO_62 hR2.oy rfl ?_
      refine jj_go C 2 rfl ?_
      refine jj_iast C (n := 64) (f := upd F 0 (io 15 + 1)) (j := 1) rfl (hR2.oc (k := 18) (by decide) (by decide) (by decide)) rfl (by decide) (by decide) ?_
      have hR3 := hR2.set (k := 18) (by decide) (by decide) (by decide) (upd (upd F 0 (io 15 + 1)) 1 k)
      have hf3 := hf2.up (a := ad 18) (x := .inl (aC (rr_ty 18), rr_len 18, .inl (upd (upd F 0 (io 15 + 1)) 1 k))) (Or.inl (rr_S_k (by decide)))
      generalize hh3 : (jj_up h2 (ad 18) (.inl (aC (rr_ty 18), rr_len 18, .inl (upd (upd F 0 (io 15 + 1)) 1 k)))) = h3 at hR3 hf3
      refine jj_eq (h' := h3) rfl rfl rfl hh3 ?_
      refine jj_go C 1 rfl ?_
      refine jj_getf C rfl fl_MO_62 hR3.oy rfl ?_
      refine jj_go C 2 rfl ?_
      refine jj_iast C (n := 64) (f := upd (upd F 0 (io 15 + 1)) 1 k) (j := 2) rfl (hR3.oc (k := 18) (by decide) (by decide) (by decide)) rfl (by decide) (by decide) ?_
      have hR4 := hR3.set (k := 18) (by decide) (by decide) (by decide) (upd (upd (upd F 0 (io 15 + 1)) 1 k) 2 s0)
      have hf4 := hf3.up (a := ad 18) (x := .inl (aC (rr_ty 18), rr_len 18, .inl (upd (upd (upd F 0 (io 15 + 1)) 1 k) 2 s0))) (Or.inl (rr_S_k (by decide)))
      generalize hh4 : (jj_up h3 (ad 18) (.inl (aC (rr_ty 18), rr_len 18, .inl (upd (upd (upd F 0 (io 15 + 1)) 1 k) 2 s0)))) = h4 at hR4 hf4
      refine jj_eq (h' := h4) rfl rfl rfl hh4 ?_
      refine jj_go C 1 rfl ?_
      refine jj_getf C rfl fl_MO_62 hR4.oy rfl ?_
      refine jj_go C 2 rfl ?_
      refine jj_iast C (n := 64) (f := upd (upd (upd F 0 (io 15 + 1)) 1 k) 2 s0) (j := 3) rfl (hR4.oc (k := 18) (by decide) (by decide) (by decide)) rfl (by decide) (by decide) ?_
      have hR5 := hR4.set (k := 18) (by decide) (by decide) (by decide) (upd (upd (upd (upd F 0 (io 15 + 1)) 1 k) 2 s0) 3 v0)
      have hf5 := hf4.up (a := ad 18) (x := .inl (aC (rr_ty 18), rr_len 18, .inl (upd (upd (upd (upd F 0 (io 15 + 1)) 1 k) 2 s0) 3 v0))) (Or.inl (rr_S_k (by decide)))
      generalize hh5 : (jj_up h4 (ad 18) (.inl (aC (rr_ty 18), rr_len 18, .inl (upd (upd (upd (upd F 0 (io 15 + 1)) 1 k) 2 s0) 3 v0)))) = h5 at hR5 hf5
      refine jj_eq (h' := h5) rfl rfl rfl hh5 ?_
      rw [hs] at hR5 ⊢
      refine jj_go C 2 rfl ?_
      refine jj_getf C rfl fl_MO_154 hR5.oy rfl ?_
      refine jj_go C 1 rfl ?_
      have hio : (upd io 15 (io 15 + 1)) 17 = io 17 := rfl
      refine jj_if C rfl (fun z => ?_) (fun z => ?_)
      · refine jj_go C 1 rfl ?_
        refine jj_putf C rfl fl_MO_154 hR5.oy rfl rfl (Nat.le_of_ble_eq_true rfl) ?_
        exact jj_vret C rfl rfl (Nat.le_of_ble_eq_true rfl) (Nat.le_of_ble_eq_true rfl) ⟨rfl, hR5.put (by rw [if_neg (show ¬ io 17 < 16 from Int32.not_lt.mpr z)]; rfl), hf5.up (Or.inl rr_S_y)⟩
      · refine jj_go C 1 rfl ?_
        refine jj_getf C rfl fl_MO_154 hR5.oy rfl ?_
        refine jj_go C 3 rfl ?_
        refine jj_putf C rfl fl_MO_154 hR5.oy rfl rfl (Nat.le_of_ble_eq_true rfl) ?_
        exact jj_vret C rfl rfl (Nat.le_of_ble_eq_true rfl) (Nat.le_of_ble_eq_true rfl) ⟨rfl, hR5.put (by rw [if_pos (show io 17 < 16 from Int32.not_le.mp z)]; rfl), hf5.up (Or.inl rr_S_y)⟩
    | succ j ih =>
      intro v F h1 hv hj hF hR1 hf1
      have hcell := hR1.oc (k := 18) (by decide) (by decide) (by decide)
      refine jj_go C 2 rfl ?_
      refine jj_if C rfl (fun z => ?_) (fun _ => ?_)
      · rw [hv] at z
        have := (nI_leI (a := j + 1 + 3) (b := 3) (by omega) (by decide)).mp z
        omega
      refine jj_go C 1 rfl ?_
      refine jj_getf C rfl fl_MO_62 hR1.oy rfl ?_
      refine jj_go C 2 rfl ?_
      refine jj_getf C rfl fl_MO_62 hR1.oy rfl ?_
      refine jj_go C 3 rfl ?_
      refine jj_iald C (n := 64) (f := F) (j := j) rfl hcell (by rw [hv]; exact (pk_sub (a := j + 1 + 3) (b := 4) (by omega)).trans (by congr 1)) (by omega) (by decide) ?_
      refine jj_iast C (n := 64) (f := F) (j := j + 1 + 3) rfl hcell hv (by omega) (by decide) ?_
      have hR2 := hR1.set (k := 18) (by decide) (by decide) (by decide) (upd F (j + 1 + 3) (F j))
      have hf2 := hf1.up (a := ad 18) (x := .inl (aC (rr_ty 18), rr_len 18, .inl (upd F (j + 1 + 3) (F j)))) (Or.inl (rr_S_k (by decide)))
      rw [bx_uu] at hR2
      refine jj_go C 2 rfl ?_
      refine ih _ _ _ ?_ (by omega) ?_ hR2 hf2
      · rw [hv]
        exact nI_m1 (j := j + 3)
      · intro i
        simp only [upd]
        by_cases hi : i = j + 1 + 3
        · rw [if_pos hi, if_pos ⟨by omega, by omega⟩, hF j, if_neg (by omega)]
          congr 1
          omega
        · rw [if_neg hi, hF i]
          by_cases hi2 : j + 1 + 3 < i ∧ i < 64
          · rw [if_pos hi2, if_pos ⟨by omega, hi2.2⟩]
          · rw [if_neg hi2, if_neg (by omega)]
  refine jj_go C 2 rfl ?_
  refine jj_getf C rfl fl_MO_151 hy rfl ?_
  refine jj_go C 2 rfl ?_
  refine jj_putf C rfl fl_MO_151 hy rfl rfl (Nat.le_of_ble_eq_true rfl) ?_
  have hR1 : RR aC (jj_up h y (.inr (9, (rr_fs ad io).set 15 (.int (io 15 + 1))))) y ad rh sg mu (upd io 15 (io 15 + 1)) := hR.put rfl
  have hf1 : jj_fr (rr_S y ad) h (jj_up h y (.inr (9, (rr_fs ad io).set 15 (.int (io 15 + 1))))) := jj_fr.rf.up (Or.inl rr_S_y)
  generalize (jj_up h y (.inr (9, (rr_fs ad io).set 15 (.int (io 15 + 1))))) = h1 at hR1 hf1 ⊢
  refine jj_go C 1 rfl ?_
  refine jj_getf C rfl fl_MO_58 hR1.oy rfl ?_
  refine jj_go C 4 rfl ?_
  refine jj_if C rfl (fun z => absurd z hg) (fun z => ?_)
  refine jj_go C 2 rfl ?_
  refine loop 60 _ (sg 18) h1 rfl (Nat.le_refl _) (fun i => ?_) (by rw [rr_up_same]; exact hR1) hf1
  rw [if_neg (by omega)]
end MG
