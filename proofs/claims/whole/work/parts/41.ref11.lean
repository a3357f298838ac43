/-! The reference: watch, counter, gauge, form -/
def px_mf (f : Nat → Int32) : Nat → Nat → Option Nat
  | 0, _ => none
  | k + 1, j => if f j ≤ 0 then some j else px_mf f k (j + 1)
theorem px_mf_lt {f : Nat → Int32} : ∀ (k j : Nat) {b : Nat}, px_mf f k j = some b → j ≤ b ∧ b < j + k ∧ f b ≤ 0
  | 0, _, _, h => by cases h
  | k + 1, j, b, h => by
    unfold px_mf at h
    by_cases hc : f j ≤ 0
    · rw [if_pos hc] at h
      cases h
      exact ⟨Nat.le_refl _, by omega, hc⟩
    · rw [if_neg hc] at h
      obtain ⟨a, b, c⟩ := px_mf_lt k (j + 1) h
      exact ⟨by omega, by omega, c⟩
def wt_sg (sg : Nat → Nat → Int32) (m : Nat) (k att a b : Int32) : Nat → Nat → Int32 := va_up (va_up (va_up (va_up (va_up (va_up (va_up sg 6 (upd (sg 6) m k)) 7 (upd (sg 7) m att)) 8 (upd (sg 8) m a)) 9 (upd (sg 9) m b)) 11 (upd (sg 11) m 1)) 12 (upd (sg 12) m 0)) 14 (upd (sg 14) m 0)
def wt_mu (mu : Nat → Int64) (m : Nat) (k a : Int32) : Nat → Int64 := vp_updL mu m (if k = 1 then a.toInt64 else 0)
def fm_row (rh : Nat → List Nat) (sg : Nat → Nat → Int32) (w n : Int32) : Option Nat := if w = 0 ∧ px_at 12 (px_b (sg 2)) n = true then some n.toNatClampNeg else if w = 1 ∧ px_at 6 (px_b (sg 5)) n = true then some (24 + n.toNatClampNeg) else if w = 2 ∧ 0 < (rh 30).length then some 30 else none
def fm_a (t : List Nat) (k : Int32) : Int32 := if k < -1 then -2 else if k < nI t.length then (if 0 ≤ k then nI (jr_g t k) else nI t.length) else -2
def fm_ans (rh : Nat → List Nat) (sg : Nat → Nat → Int32) (w n k : Int32) : Int32 := match fm_row rh sg w n with
  | some r => fm_a (rh r) k
  | none => -2
section MW
variable {l : Launch} {D : va_G} {aC : Nat → ClassId} {base : Nat} {h : jjHp} {y : Nat} {ad : Nat → Nat} {rh : Nat → List Nat} {sg : Nat → Nat → Int32} {mu : Nat → Int64} {io : Nat → Int32}
theorem rr_watch {k x att a b : Int32} (hR : RR aC h y ad rh sg mu io) : jj_Ct l D aC base yn_MO_watch yb_MO_watch 7 (some .int) 2 0 0 [.ref y, .int k, .int x, .int att, .int a, .int b] h (fun q h' => (px_at 12 (px_b (sg 2)) x = false ∧ q = some (.int (-2)) ∧ h' = h) ∨ (∃ j, x = nI j ∧ j < 12 ∧ ¬ sg 2 j = 0 ∧ ((px_mf (sg 6) 6 0 = none ∧ q = some (.int (-4)) ∧ h' = h) ∨ ∃ m, px_mf (sg 6) 6 0 = some m ∧ m < 6 ∧ q = some (.int (nI m)) ∧ RR aC h' y ad (jr_up rh (12 + m) (rh j)) (wt_sg sg m k att a b) (wt_mu mu m k a) io ∧ jj_fr (rr_S y ad) h h'))) := by
  refine jj_start (tb := tb_MO_watch) (by decide) tg_MO_watch (Nat.le_of_ble_eq_true rfl) ?_
  intro p e s m args below meth cc C
  have hy := hR.oy
  have hcell := hR.oc (k := 6) (by decide) (by decide) (by decide)
  refine jj_go C 2 rfl ?_
  refine jj_callV C rfl ml_MO_171 wd_1050 hy rfl se_MO_MO_isBean (rr_isBean (x := x) hR) (rest := []) rfl rfl ⟨Nat.le_of_ble_eq_true rfl, Nat.le_of_ble_eq_true rfl⟩ (Nat.le_of_ble_eq_true rfl) (Nat.le_of_ble_eq_true rfl) (Nat.le_of_ble_eq_true rfl) ?_
  rintro q9 h9 ⟨rfl, hh9⟩
  rw [hh9]
  rcases jb_cases (px_at 12 (px_b (sg 2)) x) with ⟨e1, e2⟩ | ⟨e1, e2⟩
  rotate_left
  · rw [e2]
    refine jj_if C rfl (fun _ => ?_) (fun z => absurd rfl z)
    refine jj_go C 1 rfl ?_
    exact jj_iret C rfl rfl rfl (Nat.le_of_ble_eq_true rfl) (Nat.le_of_ble_eq_true rfl) (Or.inl ⟨e1, rfl, rfl⟩)
  rw [e2]
  refine jj_if C rfl (fun z => absurd z (by decide)) (fun _ => ?_)
  obtain ⟨j, hj, hx, hth⟩ := px_at_t (by decide) e1
  have hth := px_b_t.mp hth
  have made : ∀ (mm : Nat), px_mf (sg 6) 6 0 = some mm → mm < 6 → jj_J p l e (jj_rm 2 0 0) s m args below meth cc D base 7 (MQ below (jj_Q D base (fun q h' => (px_at 12 (px_b (sg 2)) x = false ∧ q = some (.int (-2)) ∧ h' = h) ∨ (∃ j, x = nI j ∧ j < 12 ∧ ¬ sg 2 j = 0 ∧ ((px_mf (sg 6) 6 0 = none ∧ q = some (.int (-4)) ∧ h' = h) ∨ ∃ m, px_mf (sg 6) 6 0 = some m ∧ m < 6 ∧ q = some (.int (nI m)) ∧ RR aC h' y ad (jr_up rh (12 + m) (rh j)) (wt_sg sg m k att a b) (wt_mu mu m k a) io ∧ jj_fr (rr_S y ad) h h')))) args s 0 0 (jj_A base)) 47 [(0, .ref y), (1, .int k), (2, .int x), (3, .int att), (4, .int a), (5, .int b), (6, .int (nI mm))] [] h 0 0 := by
    intro mm hmf hm
    have hf0 : jj_fr (rr_S y ad) h h := jj_fr.rf
    have hR0 := hR
    refine jj_go C 1 rfl ?_
    refine jj_getf C rfl fl_MO_30 hy rfl ?_
    refine jj_go C 2 rfl ?_
    refine jj_iast C (n := 6) (f := (sg 6)) (j := mm) rfl (hR0.oc (k := 6) (by decide) (by decide) (by decide)) rfl (by omega) (by decide) ?_
    have hR1 := hR0.set (k := 6) (by decide) (by decide) (by decide) (upd (sg 6) mm k)
    have hf1 := hf0.up (a := ad 6) (x := .inl (aC (rr_ty 6), rr_len 6, .inl (upd (sg 6) mm k))) (Or.inl (rr_S_k (by decide)))
    generalize hh1 : (jj_up h (ad 6) (.inl (aC (rr_ty 6), rr_len 6, .inl (upd (sg 6) mm k)))) = h1 at hR1 hf1
    refine jj_eq (h' := h1) rfl rfl rfl hh1 ?_
    refine jj_go C 5 rfl ?_
    refine jj_callV C rfl ml_MO_91 wd_984 hR1.oy rfl se_MO_MO_copy (As := [.int (nI j), .int (nI (12 + mm))]) (mo_copy (f := j) (t := 12 + mm) hR1.oT (by omega) (by omega) (by omega)) (rest := []) (by rw [hx, ← nI_add]; rfl) rfl ⟨(Nat.le_of_ble_eq_true rfl), (Nat.le_of_ble_eq_true rfl)⟩ (Nat.le_of_ble_eq_true rfl) (Nat.le_of_ble_eq_true rfl) (Nat.le_of_ble_eq_true rfl) ?_
    rintro q9 h2 ⟨rfl, hT2, hf2⟩
    have hR2 := hR1.text hT2 hf2
    have hf2 := hf1.tr (rr_fr01 hf2)
    refine jj_go C 1 rfl ?_
    refine jj_getf C rfl fl_MO_33 hR2.oy rfl ?_
    refine jj_go C 2 rfl ?_
    refine jj_iast C (n := 6) (f := (sg 7)) (j := mm) rfl (hR2.oc (k := 7) (by decide) (by decide) (by decide)) rfl (by omega) (by decide) ?_
    have hR3 := hR2.set (k := 7) (by decide) (by decide) (by decide) (upd (sg 7) mm att)
    have hf3 := hf2.up (a := ad 7) (x := .inl (aC (rr_ty 7), rr_len 7, .inl (upd (sg 7) mm att))) (Or.inl (rr_S_k (by decide)))
    generalize hh3 : (jj_up h2 (ad 7) (.inl (aC (rr_ty 7), rr_len 7, .inl (upd (sg 7) mm att)))) = h3 at hR3 hf3
    refine jj_eq (h' := h3) rfl rfl rfl hh3 ?_
    refine jj_go C 1 rfl ?_
    refine jj_getf C rfl fl_MO_36 hR3.oy rfl ?_
    refine jj_go C 2 rfl ?_
    refine jj_iast C (n := 6) (f := (sg 8)) (j := mm) rfl (hR3.oc (k := 8) (by decide) (by decide) (by decide)) rfl (by omega) (by decide) ?_
    have hR4 := hR3.set (k := 8) (by decide) (by decide) (by decide) (upd (sg 8) mm a)
    have hf4 := hf3.up (a := ad 8) (x := .inl (aC (rr_ty 8), rr_len 8, .inl (upd (sg 8) mm a))) (Or.inl (rr_S_k (by decide)))
    generalize hh4 : (jj_up h3 (ad 8) (.inl (aC (rr_ty 8), rr_len 8, .inl (upd (sg 8) mm a)))) = h4 at hR4 hf4
    refine jj_eq (h' := h4) rfl rfl rfl hh4 ?_
    refine jj_go C 1 rfl ?_
    refine jj_getf C rfl fl_MO_39 hR4.oy rfl ?_
    refine jj_go C 2 rfl ?_
    refine jj_iast C (n := 6) (f := (sg 9)) (j := mm) rfl (hR4.oc (k := 9) (by decide) (by decide) (by decide)) rfl (by omega) (by decide) ?_
    have hR5 := hR4.set (k := 9) (by decide) (by decide) (by decide) (upd (sg 9) mm b)
    have hf5 := hf4.up (a := ad 9) (x := .inl (aC (rr_ty 9), rr_len 9, .inl (upd (sg 9) mm b))) (Or.inl (rr_S_k (by decide)))
    generalize hh5 : (jj_up h4 (ad 9) (.inl (aC (rr_ty 9), rr_len 9, .inl (upd (sg 9) mm b)))) = h5 at hR5 hf5
    refine jj_eq (h' := h5) rfl rfl rfl hh5 ?_
    -- behind the mark
    have tail : ∀ (h6 : jjHp), RR aC h6 y ad (jr_up rh (12 + mm) (rh j)) (va_up (va_up (va_up (va_up sg 6 (upd (sg 6) mm k)) 7 (upd (sg 7) mm att)) 8 (upd (sg 8) mm a)) 9 (upd (sg 9) mm b)) (wt_mu mu mm k a) io → jj_fr (rr_S y ad) h h6 → jj_J p l e (jj_rm 2 0 0) s m args below meth cc D base 7 (MQ below (jj_Q D base (fun q h' => (px_at 12 (px_b (sg 2)) x = false ∧ q = some (.int (-2)) ∧ h' = h) ∨ (∃ j, x = nI j ∧ j < 12 ∧ ¬ sg 2 j = 0 ∧ ((px_mf (sg 6) 6 0 = none ∧ q = some (.int (-4)) ∧ h' = h) ∨ ∃ m, px_mf (sg 6) 6 0 = some m ∧ m < 6 ∧ q = some (.int (nI m)) ∧ RR aC h' y ad (jr_up rh (12 + m) (rh j)) (wt_sg sg m k att a b) (wt_mu mu m k a) io ∧ jj_fr (rr_S y ad) h h')))) args s 0 0 (jj_A base)) 110 [(0, .ref y), (1, .int k), (2, .int x), (3, .int att), (4, .int a), (5, .int b), (6, .int (nI mm))] [] h6 0 0 := by
      intro h6 hR6 hf6
      refine jj_go C 1 rfl ?_
      refine jj_getf C rfl fl_MO_46 hR6.oy rfl ?_
      refine jj_go C 2 rfl ?_
      refine jj_zast C (n := 6) (f := (sg 11)) (j := mm) rfl (hR6.oc (k := 11) (by decide) (by decide) (by decide)) rfl (by omega) (by decide) ?_
      have hR7 := hR6.set (k := 11) (by decide) (by decide) (by decide) (upd (sg 11) mm 1)
      have hf7 := hf6.up (a := ad 11) (x := .inl (aC (rr_ty 11), rr_len 11, .inl (upd (sg 11) mm 1))) (Or.inl (rr_S_k (by decide)))
      generalize hh7 : (jj_up h6 (ad 11) (.inl (aC (rr_ty 11), rr_len 11, .inl (upd (sg 11) mm 1)))) = h7 at hR7 hf7
      refine jj_eq (h' := h7) rfl rfl rfl hh7 ?_
      refine jj_go C 1 rfl ?_
      refine jj_getf C rfl fl_MO_49 hR7.oy rfl ?_
      refine jj_go C 2 rfl ?_
      refine jj_zast C (n := 6) (f := (sg 12)) (j := mm) rfl (hR7.oc (k := 12) (by decide) (by decide) (by decide)) rfl (by omega) (by decide) ?_
      have hR8 := hR7.set (k := 12) (by decide) (by decide) (by decide) (upd (sg 12) mm 0)
      have hf8 := hf7.up (a := ad 12) (x := .inl (aC (rr_ty 12), rr_len 12, .inl (upd (sg 12) mm 0))) (Or.inl (rr_S_k (by decide)))
      generalize hh8 : (jj_up h7 (ad 12) (.inl (aC (rr_ty 12), rr_len 12, .inl (upd (sg 12) mm 0)))) = h8 at hR8 hf8
      refine jj_eq (h' := h8) rfl rfl rfl hh8 ?_
      refine jj_go C 1 rfl ?_
      refine jj_getf C rfl fl_MO_55 hR8.oy rfl ?_
      refine jj_go C 2 rfl ?_
      refine jj_zast C (n := 6) (f := (sg 14)) (j := mm) rfl (hR8.oc (k := 14) (by decide) (by decide) (by decide)) rfl (by omega) (by decide) ?_
      have hR9 := hR8.set (k := 14) (by decide) (by decide) (by decide) (upd (sg 14) mm 0)
      have hf9 := hf8.up (a := ad 14) (x := .inl (aC (rr_ty 14), rr_len 14, .inl (upd (sg 14) mm 0))) (Or.inl (rr_S_k (by decide)))
      generalize hh9 : (jj_up h8 (ad 14) (.inl (aC (rr_ty 14), rr_len 14, .inl (upd (sg 14) mm 0)))) = h9 at hR9 hf9
      refine jj_eq (h' := h9) rfl rfl rfl hh9 ?_
      refine jj_go C 1 rfl ?_
      exact jj_iret C rfl rfl rfl (Nat.le_of_ble_eq_true rfl) (Nat.le_of_ble_eq_true rfl) (Or.inr ⟨j, hx, hj, hth, Or.inr ⟨mm, hmf, hm, rfl, hR9, hf9⟩⟩)
    refine jj_go C 1 rfl ?_
    refine jj_getf C rfl fl_MO_42 hR5.oy rfl ?_
    refine jj_go C 3 rfl ?_
    refine jj_if C rfl (fun z => ?_) (fun z => ?_)
    · refine jj_go C 3 rfl ?_
      refine jj_last C (n := 6) (f := mu) (j := mm) rfl hR5.om rfl (by omega) (by decide) ?_
      have hR6 := hR5.mark (vp_updL mu mm a.toInt64)
      have hf6 := hf5.up (a := ad 10) (x := .inl (aC 3, 6, .inr (.inl (vp_updL mu mm a.toInt64)))) (Or.inl (rr_S_k (by decide)))
      generalize hh6 : (jj_up h5 (ad 10) (.inl (aC 3, 6, .inr (.inl (vp_updL mu mm a.toInt64))))) = h6 at hR6 hf6
      refine jj_eq (h' := h6) rfl rfl rfl (by first | exact hh6 | rfl) ?_
      rw [show vp_updL mu mm a.toInt64 = wt_mu mu mm k a by unfold wt_mu; rw [if_pos z]] at hR6
      exact tail h6 hR6 hf6
    · refine jj_go C 1 rfl ?_
      refine jj_last C (n := 6) (f := mu) (j := mm) rfl hR5.om rfl (by omega) (by decide) ?_
      have hR6 := hR5.mark (vp_updL mu mm 0)
      have hf6 := hf5.up (a := ad 10) (x := .inl (aC 3, 6, .inr (.inl (vp_updL mu mm 0)))) (Or.inl (rr_S_k (by decide)))
      generalize hh6 : (jj_up h5 (ad 10) (.inl (aC 3, 6, .inr (.inl (vp_updL mu mm 0))))) = h6 at hR6 hf6
      refine jj_eq (h' := h6) rfl rfl rfl (by first | exact hh6 | rfl) ?_
      rw [show vp_updL mu mm 0 = wt_mu mu mm k a by unfold wt_mu; rw [if_neg z]] at hR6
      exact tail h6 hR6 hf6
  have loop : ∀ (n i : Nat) (v : Int32), v = nI i → i + n = 6 → px_mf (sg 6) n i = px_mf (sg 6) 6 0 → jj_J p l e (jj_rm 2 0 0) s m args below meth cc D base 7 (MQ below (jj_Q D base (fun q h' => (px_at 12 (px_b (sg 2)) x = false ∧ q = some (.int (-2)) ∧ h' = h) ∨ (∃ j, x = nI j ∧ j < 12 ∧ ¬ sg 2 j = 0 ∧ ((px_mf (sg 6) 6 0 = none ∧ q = some (.int (-4)) ∧ h' = h) ∨ ∃ m, px_mf (sg 6) 6 0 = some m ∧ m < 6 ∧ q = some (.int (nI m)) ∧ RR aC h' y ad (jr_up rh (12 + m) (rh j)) (wt_sg sg m k att a b) (wt_mu mu m k a) io ∧ jj_fr (rr_S y ad) h h')))) args s 0 0 (jj_A base)) 14 [(0, .ref y), (1, .int k), (2, .int x), (3, .int att), (4, .int a), (5, .int b), (6, .int v)] [] h 0 0 := by
    intro n
    induction n with
    | zero =>
      intro i v hv hk hg
      have hi : i = 6 := by omega
      subst hi
      have hg : none = px_mf (sg 6) 6 0 := hg
      refine jj_go C 2 rfl ?_
      refine jj_if C rfl (fun _ => ?_) (fun z => absurd (by rw [hv]; decide) z)
      refine jj_go C 2 rfl ?_
      refine jj_if C rfl (fun z => ?_) (fun z => absurd (by rw [hv]; rfl) z)
      refine jj_go C 1 rfl ?_
      exact jj_iret C rfl rfl rfl (Nat.le_of_ble_eq_true rfl) (Nat.le_of_ble_eq_true rfl) (Or.inr ⟨j, hx, hj, hth, Or.inl ⟨hg.symm, rfl, rfl⟩⟩)
    | succ n ih =>
      intro i v hv hk hg
      have hg : (if sg 6 i ≤ 0 then some i else px_mf (sg 6) n (i + 1)) = px_mf (sg 6) 6 0 := hg
      have hlt : i < 6 := by omega
      refine jj_go C 2 rfl ?_
      refine jj_if C rfl (fun z => absurd z (by rw [hv]; exact nI_ge (b := 6) hlt (by decide))) (fun _ => ?_)
      refine jj_go C 1 rfl ?_
      refine jj_getf C rfl fl_MO_30 hy rfl ?_
      refine jj_go C 1 rfl ?_
      refine jj_iald C (n := 6) (f := sg 6) rfl hcell hv hlt (by decide) ?_
      refine jj_if C rfl (fun z => ?_) (fun z => ?_)
      · rw [if_pos z] at hg
        refine jj_go C 2 rfl ?_
        refine jj_if C rfl (fun z => ?_) (fun _ => ?_)
        · rw [hv] at z
          have := (nI_eq (a := i) (b := 6) (by omega) (by decide)).mp z
          omega
        rw [hv]
        exact made i hg.symm hlt
      · rw [if_neg z] at hg
        refine jj_go C 2 rfl ?_
        exact ih (i + 1) (v + 1) (by rw [hv, nI_1]) (by omega) hg
  refine jj_go C 2 rfl ?_
  exact loop 6 0 0 nI_0.symm (by omega) rfl
theorem rr_form {w n k : Int32} (hR : RR aC h y ad rh sg mu io) : jj_Ct l D aC base yn_MO_form yb_MO_form 5 (some .int) 1 0 0 [.ref y, .int w, .int n, .int k] h (fun q h' => q = some (.int (fm_ans rh sg w n k)) ∧ h' = h) := by
  refine jj_start (tb := tb_MO_form) (by decide) tg_MO_form (Nat.le_of_ble_eq_true rfl) ?_
  intro p e s m args below meth cc C
  obtain ⟨hy, f0, f1, hne, L, S, g0, g1, hRR⟩ := hR.oT
  have row : ∀ r, r < 34 → fm_row rh sg w n = some r → jj_J p l e (jj_rm 1 0 0) s m args below meth cc D base 5 (MQ below (jj_Q D base (fun q h' => q = some (.int (fm_ans rh sg w n k)) ∧ h' = h)) args s 0 0 (jj_A base)) 57 [(0, .ref y), (1, .int w), (2, .int n), (3, .int k)] [.int (nI r)] h 0 0 := by
    intro r hr hrow
    obtain ⟨hlen, hch⟩ := hR.len hr
    have r1 := (hRR r hr).1
    have hans : fm_ans rh sg w n k = fm_a (rh r) k := by
      unfold fm_ans
      rw [hrow]
    have no : fm_a (rh r) k = -2 → jj_J p l e (jj_rm 1 0 0) s m args below meth cc D base 5 (MQ below (jj_Q D base (fun q h' => q = some (.int (fm_ans rh sg w n k)) ∧ h' = h)) args s 0 0 (jj_A base)) 80 [(0, .ref y), (1, .int w), (2, .int n), (3, .int k), (4, .int (nI r))] [] h 0 0 := by
      intro hq
      refine jj_go C 1 rfl ?_
      exact jj_iret C rfl rfl rfl (Nat.le_of_ble_eq_true rfl) (Nat.le_of_ble_eq_true rfl) ⟨by rw [hans, hq], rfl⟩
    refine jj_go C 2 rfl ?_
    refine jj_if C rfl (fun z => absurd z (nI_pos (by omega))) (fun _ => ?_)
    refine jj_go C 2 rfl ?_
    refine jj_if C rfl (fun z => no (if_pos z)) (fun z1 => ?_)
    refine jj_go C 2 rfl ?_
    refine jj_getf C rfl fl_MO_13 hy f1 ?_
    refine jj_go C 1 rfl ?_
    refine jj_iald C rfl g1 rfl hr (by decide) ?_
    refine jj_top r1 ?_
    refine jj_if C rfl (fun z2 => ?_) (fun z2 => ?_)
    · refine jj_go C 1 rfl ?_
      refine jj_if C rfl (fun z3 => ?_) (fun z3 => ?_)
      · have hfa : fm_a (rh r) k = nI (jr_g (rh r) k) := by
          unfold fm_a
          rw [if_neg z1, if_pos z2, if_pos z3]
        refine jj_go C 3 rfl ?_
        refine jj_callV C rfl ml_MO_83 wd_988 hy rfl se_MO_MO_get1 (rr_get1 (x := k) hR hr) (rest := []) rfl rfl ⟨Nat.le_of_ble_eq_true rfl, Nat.le_of_ble_eq_true rfl⟩ (Nat.le_of_ble_eq_true rfl) (Nat.le_of_ble_eq_true rfl) (Nat.le_of_ble_eq_true rfl) ?_
        rintro q9 h9 ⟨rfl, hh9⟩
        rw [hh9]
        exact jj_iret C rfl rfl rfl (Nat.le_of_ble_eq_true rfl) (Nat.le_of_ble_eq_true rfl) ⟨by rw [hans, hfa], rfl⟩
      · have hfa : fm_a (rh r) k = nI (rh r).length := by
          unfold fm_a
          rw [if_neg z1, if_pos z2, if_neg z3]
        refine jj_go C 1 rfl ?_
        refine jj_getf C rfl fl_MO_13 hy f1 ?_
        refine jj_go C 1 rfl ?_
        refine jj_iald C rfl g1 rfl hr (by decide) ?_
        refine jj_top r1 ?_
        refine jj_go C 1 rfl ?_
        exact jj_iret C rfl rfl rfl (Nat.le_of_ble_eq_true rfl) (Nat.le_of_ble_eq_true rfl) ⟨by rw [hans, hfa], rfl⟩
    · exact no (by unfold fm_a; rw [if_neg z1, if_neg z2])
  have none : fm_row rh sg w n = none → jj_J p l e (jj_rm 1 0 0) s m args below meth cc D base 5 (MQ below (jj_Q D base (fun q h' => q = some (.int (fm_ans rh sg w n k)) ∧ h' = h)) args s 0 0 (jj_A base)) 56 [(0, .ref y), (1, .int w), (2, .int n), (3, .int k)] [] h 0 0 := by
    intro hrow
    have hans : fm_ans rh sg w n k = -2 := by
      unfold fm_ans
      rw [hrow]
    refine jj_go C 3 rfl ?_
    refine jj_if C rfl (fun _ => ?_) (fun z => absurd (by decide) z)
    refine jj_go C 1 rfl ?_
    exact jj_iret C rfl rfl rfl (Nat.le_of_ble_eq_true rfl) (Nat.le_of_ble_eq_true rfl) ⟨by rw [hans], rfl⟩
  have two : ¬ (w = 0 ∧ px_at 12 (px_b (sg 2)) n = true) → ¬ (w = 1 ∧ px_at 6 (px_b (sg 5)) n = true) → jj_J p l e (jj_rm 1 0 0) s m args below meth cc D base 5 (MQ below (jj_Q D base (fun q h' => q = some (.int (fm_ans rh sg w n k)) ∧ h' = h)) args s 0 0 (jj_A base)) 36 [(0, .ref y), (1, .int w), (2, .int n), (3, .int k)] [] h 0 0 := by
    intro n0 n1
    have r30 := (hRR 30 (by decide)).1
    obtain ⟨hlen, -⟩ := hR.len (r := 30) (by decide)
    refine jj_go C 2 rfl ?_
    refine jj_if C rfl (fun z => ?_) (fun z => none (by unfold fm_row; rw [if_neg n0, if_neg n1, if_neg (fun q => z q.1)]))
    refine jj_go C 1 rfl ?_
    refine jj_getf C rfl fl_MO_13 hy f1 ?_
    refine jj_go C 1 rfl ?_
    refine jj_iald C (j := 30) rfl g1 rfl (by decide) (by decide) ?_
    refine jj_top r30 ?_
    refine jj_if C rfl (fun z2 => ?_) (fun z2 => ?_)
    · have := (nI_leI (a := (rh 30).length) (b := 0) (by omega) (by decide)).mp z2
      exact none (by unfold fm_row; rw [if_neg n0, if_neg n1, if_neg (by omega)])
    · have hpos : 0 < (rh 30).length := Nat.not_le.mp (fun q => z2 ((nI_leI (a := (rh 30).length) (b := 0) (by omega) (by decide)).mpr q))
      refine jj_go C 2 rfl ?_
      exact row 30 (by decide) (by unfold fm_row; rw [if_neg n0, if_neg n1, if_pos ⟨z, hpos⟩])
  have one : ¬ (w = 0 ∧ px_at 12 (px_b (sg 2)) n = true) → jj_J p l e (jj_rm 1 0 0) s m args below meth cc D base 5 (MQ below (jj_Q D base (fun q h' => q = some (.int (fm_ans rh sg w n k)) ∧ h' = h)) args s 0 0 (jj_A base)) 16 [(0, .ref y), (1, .int w), (2, .int n), (3, .int k)] [] h 0 0 := by
    intro n0
    refine jj_go C 2 rfl ?_
    refine jj_if C rfl (fun z => ?_) (fun z => two n0 (fun q => z q.1))
    refine jj_go C 2 rfl ?_
    refine jj_callV C rfl ml_MO_244 wd_1116 hy rfl se_MO_MO_isAsked (rr_isAsked (x := n) hR) (rest := []) rfl rfl ⟨Nat.le_of_ble_eq_true rfl, Nat.le_of_ble_eq_true rfl⟩ (Nat.le_of_ble_eq_true rfl) (Nat.le_of_ble_eq_true rfl) (Nat.le_of_ble_eq_true rfl) ?_
    rintro q9 h9 ⟨rfl, hh9⟩
    rw [hh9]
    rcases jb_cases (px_at 6 (px_b (sg 5)) n) with ⟨e1, e2⟩ | ⟨e1, e2⟩
    · rw [e2]
      refine jj_if C rfl (fun z => absurd z (by decide)) (fun _ => ?_)
      obtain ⟨j, hj, rfl, -⟩ := px_at_t (by decide) e1
      refine jj_go C 3 rfl ?_
      refine jj_top (show (24 : Int32) + nI j = nI (24 + j) from nI_add 24 j) ?_
      refine jj_go C 1 rfl ?_
      exact row (24 + j) (by omega) (by unfold fm_row; rw [if_neg n0, if_pos ⟨z, e1⟩, nI_clamp (by omega)])
    · rw [e2]
      exact jj_if C rfl (fun _ => two n0 (fun q => by rw [e1] at q; cases q.2)) (fun z => absurd rfl z)
  refine jj_go C 1 rfl ?_
  refine jj_if C rfl (fun z => ?_) (fun z => one (fun q => z q.1))
  refine jj_go C 2 rfl ?_
  refine jj_callV C rfl ml_MO_171 wd_1050 hy rfl se_MO_MO_isBean (rr_isBean (x := n) hR) (rest := []) rfl rfl ⟨Nat.le_of_ble_eq_true rfl, Nat.le_of_ble_eq_true rfl⟩ (Nat.le_of_ble_eq_true rfl) (Nat.le_of_ble_eq_true rfl) (Nat.le_of_ble_eq_true rfl) ?_
  rintro q9 h9 ⟨rfl, hh9⟩
  rw [hh9]
  rcases jb_cases (px_at 12 (px_b (sg 2)) n) with ⟨e1, e2⟩ | ⟨e1, e2⟩
  · rw [e2]
    refine jj_if C rfl (fun z => absurd z (by decide)) (fun _ => ?_)
    obtain ⟨j, hj, rfl, -⟩ := px_at_t (by decide) e1
    refine jj_go C 2 rfl ?_
    exact row j (by omega) (by unfold fm_row; rw [if_pos ⟨z, e1⟩, nI_clamp (by omega)])
  · rw [e2]
    exact jj_if C rfl (fun _ => one (fun q => by rw [e1] at q; cases q.2)) (fun z => absurd rfl z)
end MW
