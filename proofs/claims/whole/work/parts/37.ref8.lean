/-! The reference: copyProperty, order, takeName -/
theorem px_gd_w {t : List Nat} {k p : Nat} (h : px_gd t false k p) : px_gd t true k p ∧ px_re t true (p + 2) = px_re t false (p + 2) := by
  have he : px_re t true (p + 2) = px_re t false (p + 2) := by
    obtain ⟨h1, h2, h3, h4, h5, h6, h7⟩ := h
    refine px_re_eq px_re_ge (fun i a b => ?_) h6 ?_
    · obtain ⟨c1, c2⟩ := px_re_al a b
      refine ⟨c1, ?_⟩
      unfold pc_al at c2 ⊢
      simp only [Bool.false_and, Bool.or_false] at c2
      cases hs : pc_sm (t.getD i 0)
      · rw [hs, Bool.false_or] at c2
        rw [c2]
        rfl
      · rfl
    · rcases h7 with q | q
      · exact Or.inl q
      · exact Or.inr (by rw [q]; rfl)
  refine ⟨?_, he⟩
  unfold px_gd at h ⊢
  rw [he]
  exact h
theorem px_gd_no {t : List Nat} {w : Bool} {k p : Nat} (h : px_gd t w k p) : ∀ i, p < i → i < px_re t w (p + 2) → ¬ t.getD i 0 = 44 := by
  intro i a b q
  by_cases hi : i = p + 1
  · subst hi
    rw [h.2.2.1] at q
    cases q
  · have := (px_re_al (t := t) (w := w) (show p + 2 ≤ i by omega) b).2
    rw [q] at this
    cases w <;> cases this
section MC
variable {l : Launch} {D : va_G} {aC : Nat → ClassId} {base : Nat} {h : jjHp} {y : Nat} {ad : Nat → Nat} {rh : Nat → List Nat} {sg : Nat → Nat → Int32} {mu : Nat → Int64} {io : Nat → Int32}
theorem mo_copyProperty {a0 a1 r t p0 E : Nat} {fs : List Value} {ρ : Nat → List Nat} (hT : jr_T aC h y a0 a1 fs ρ) (hr : r < 34) (ht : t < 34) (hrt : r ≠ t) (hp : p0 < E) (hE : E ≤ (ρ r).length) (hno : ∀ i, p0 < i → i < E → ¬ (ρ r).getD i 0 = 44) (hend : E = (ρ r).length ∨ (ρ r).getD E 0 = 44) (hroom : (ρ t).length + (E - p0) ≤ 60) : jj_Ct l D aC base yn_MO_copyProperty yb_MO_copyProperty 5 none 1 0 0 [.ref y, .int (nI r), .int (nI p0), .int (nI t)] h (fun q h' => q = none ∧ jr_T aC h' y a0 a1 fs (jr_up ρ t (ρ t ++ px_seg (ρ r) p0 E)) ∧ jj_fr [a0, a1] h h') := by
  obtain ⟨hlen, hch⟩ := jr_T_len hT hr
  refine jj_start (tb := tb_MO_copyProperty) (by decide) tg_MO_copyProperty (Nat.le_of_ble_eq_true rfl) ?_
  intro p e s m args below meth cc C
  have loop : ∀ (k j : Nat) (v : Int32) (h1 : jjHp), v = nI j → j + k + 1 = E → p0 ≤ j → jr_T aC h1 y a0 a1 fs (jr_up ρ t (ρ t ++ px_seg (ρ r) p0 j)) → jj_fr [a0, a1] h h1 → jj_J p l e (jj_rm 1 0 0) s m args below meth cc D base 5 (MQ below (jj_Q D base (fun q h' => q = none ∧ jr_T aC h' y a0 a1 fs (jr_up ρ t (ρ t ++ px_seg (ρ r) p0 E)) ∧ jj_fr [a0, a1] h h')) args s 0 0 (jj_A base)) 3 [(0, .ref y), (1, .int (nI r)), (2, .int (nI p0)), (3, .int (nI t)), (4, .int v)] [] h1 0 0 := by
    intro k
    induction k with
    | zero =>
      intro j v h1 hv hk hpj hT1 hf1
      have hcj := hch j
      refine jj_go C 5 rfl ?_
      refine jj_callV C rfl ml_MO_83 wd_988 hT1.1 rfl se_MO_MO_get1 (mo_get1 (x := v) hT1 hr) (rest := [.int (nI t), .ref y]) rfl rfl ⟨Nat.le_of_ble_eq_true rfl, Nat.le_of_ble_eq_true rfl⟩ (Nat.le_of_ble_eq_true rfl) (Nat.le_of_ble_eq_true rfl) (Nat.le_of_ble_eq_true rfl) ?_
      rintro q9 h9 ⟨rfl, hh9⟩
      rw [hh9]
      have eg : jr_g (jr_up ρ t (ρ t ++ px_seg (ρ r) p0 j) r) v = (ρ r).getD j 0 := by rw [jr_up_n hrt, hv, jr_g_n (by omega)]
      rw [eg]
      refine jj_callV C rfl ml_MO_87 wd_968 hT1.1 rfl se_MO_MO_put (mo_put (r := t) (k := (ρ r).getD j 0) hT1 ht (by rw [jr_up_s, List.length_append, px_seg_len (by omega)]; omega) (by omega)) (rest := []) rfl rfl ⟨Nat.le_of_ble_eq_true rfl, Nat.le_of_ble_eq_true rfl⟩ (Nat.le_of_ble_eq_true rfl) (Nat.le_of_ble_eq_true rfl) (Nat.le_of_ble_eq_true rfl) ?_
      rintro q9 h2 ⟨rfl, hT2, hf2⟩
      have hf3 := hf1.tr hf2
      rw [jr_up_s, jr_up_up, List.append_assoc, px_seg_succ hpj (by omega), show j + 1 = E by omega] at hT2
      have hT2' := hT2
      obtain ⟨hy2, f0, f1, hne, L, S, g0, g1, hRR⟩ := hT2'
      have r1 := (hRR r hr).1
      rw [jr_up_n hrt] at r1
      refine jj_go C 3 rfl ?_
      refine jj_getf C rfl fl_MO_13 hy2 f1 ?_
      refine jj_go C 1 rfl ?_
      refine jj_iald C rfl g1 rfl hr (by decide) ?_
      refine jj_top r1 ?_
      refine jj_if C rfl (fun z => ?_) (fun z => ?_)
      · exact jj_vret C rfl rfl (Nat.le_of_ble_eq_true rfl) (Nat.le_of_ble_eq_true rfl) ⟨rfl, hT2, hf3⟩
      · have hlt : E < (ρ r).length := Nat.not_le.mp (fun q => z (by rw [hv, nI_1, show j + 1 = E by omega]; exact nI_le q (by omega)))
        have g44 : (ρ r).getD E 0 = 44 := by
          rcases hend with q | q
          · omega
          · exact q
        refine jj_go C 3 rfl ?_
        refine jj_callV C rfl ml_MO_83 wd_988 hy2 rfl se_MO_MO_get1 (mo_get1 (x := v + 1) hT2 hr) (rest := []) rfl rfl ⟨Nat.le_of_ble_eq_true rfl, Nat.le_of_ble_eq_true rfl⟩ (Nat.le_of_ble_eq_true rfl) (Nat.le_of_ble_eq_true rfl) (Nat.le_of_ble_eq_true rfl) ?_
        rintro q9 h9 ⟨rfl, hh9⟩
        rw [hh9]
        have eg : jr_g (jr_up ρ t (ρ t ++ px_seg (ρ r) p0 E) r) (v + 1) = 44 := by rw [jr_up_n hrt, hv, nI_1, jr_g_n (by omega), show j + 1 = E by omega, g44]
        rw [eg]
        refine jj_go C 1 rfl ?_
        refine jj_if C rfl (fun z => ?_) (fun z => absurd rfl z)
        exact jj_vret C rfl rfl (Nat.le_of_ble_eq_true rfl) (Nat.le_of_ble_eq_true rfl) ⟨rfl, hT2, hf3⟩
    | succ k ih =>
      intro j v h1 hv hk hpj hT1 hf1
      have hcj := hch j
      refine jj_go C 5 rfl ?_
      refine jj_callV C rfl ml_MO_83 wd_988 hT1.1 rfl se_MO_MO_get1 (mo_get1 (x := v) hT1 hr) (rest := [.int (nI t), .ref y]) rfl rfl ⟨Nat.le_of_ble_eq_true rfl, Nat.le_of_ble_eq_true rfl⟩ (Nat.le_of_ble_eq_true rfl) (Nat.le_of_ble_eq_true rfl) (Nat.le_of_ble_eq_true rfl) ?_
      rintro q9 h9 ⟨rfl, hh9⟩
      rw [hh9]
      have eg : jr_g (jr_up ρ t (ρ t ++ px_seg (ρ r) p0 j) r) v = (ρ r).getD j 0 := by rw [jr_up_n hrt, hv, jr_g_n (by omega)]
      rw [eg]
      refine jj_callV C rfl ml_MO_87 wd_968 hT1.1 rfl se_MO_MO_put (mo_put (r := t) (k := (ρ r).getD j 0) hT1 ht (by rw [jr_up_s, List.length_append, px_seg_len (by omega)]; omega) (by omega)) (rest := []) rfl rfl ⟨Nat.le_of_ble_eq_true rfl, Nat.le_of_ble_eq_true rfl⟩ (Nat.le_of_ble_eq_true rfl) (Nat.le_of_ble_eq_true rfl) (Nat.le_of_ble_eq_true rfl) ?_
      rintro q9 h2 ⟨rfl, hT2, hf2⟩
      have hf3 := hf1.tr hf2
      rw [jr_up_s, jr_up_up, List.append_assoc, px_seg_succ hpj (by omega)] at hT2
      have hT2' := hT2
      obtain ⟨hy2, f0, f1, hne, L, S, g0, g1, hRR⟩ := hT2'
      have r1 := (hRR r hr).1
      rw [jr_up_n hrt] at r1
      refine jj_go C 3 rfl ?_
      refine jj_getf C rfl fl_MO_13 hy2 f1 ?_
      refine jj_go C 1 rfl ?_
      refine jj_iald C rfl g1 rfl hr (by decide) ?_
      refine jj_top r1 ?_
      refine jj_if C rfl (fun z => absurd z (by rw [hv, nI_1]; exact nI_ge (by omega) (by omega))) (fun z => ?_)
      have g44 := hno (j + 1) (by omega) (by omega)
      have hcj1 := hch (j + 1)
      refine jj_go C 3 rfl ?_
      refine jj_callV C rfl ml_MO_83 wd_988 hy2 rfl se_MO_MO_get1 (mo_get1 (x := v + 1) hT2 hr) (rest := []) rfl rfl ⟨Nat.le_of_ble_eq_true rfl, Nat.le_of_ble_eq_true rfl⟩ (Nat.le_of_ble_eq_true rfl) (Nat.le_of_ble_eq_true rfl) (Nat.le_of_ble_eq_true rfl) ?_
      rintro q9 h9 ⟨rfl, hh9⟩
      rw [hh9]
      have eg : jr_g (jr_up ρ t (ρ t ++ px_seg (ρ r) p0 (j + 1)) r) (v + 1) = (ρ r).getD (j + 1) 0 := by rw [jr_up_n hrt, hv, nI_1, jr_g_n (by omega)]
      rw [eg]
      refine jj_go C 1 rfl ?_
      refine jj_if C rfl (fun z => absurd ((nI_eq (a := (ρ r).getD (j + 1) 0) (b := 44) (by omega) (by decide)).mp z) g44) (fun z => ?_)
      exact ih (j + 1) (v + 1) h2 (by rw [hv, nI_1]) (by omega) (by omega) hT2 hf3
  refine jj_go C 2 rfl ?_
  refine loop (E - p0 - 1) p0 _ h rfl (by omega) (Nat.le_refl _) ?_ jj_fr.rf
  rw [px_seg_nil, List.append_nil]
  have : jr_up ρ t (ρ t) = ρ := by
    funext q
    unfold jr_up
    split
    next z => rw [z]
    next => rfl
  rw [this]
  exact hT
set_option maxHeartbeats 1000000 in
theorem rr_order {W : Nat → Int32} {P : Nat → Option Nat} {op : Bool} (hR : RR aC h y ad rh sg mu io) (hW : sg 21 = W) (hw : px_w W P) (hop : io 22 = jb_I op) (hgd : ∀ k p, P k = some p → px_gd (rh 31) true k p) (hcl : px_col (rh 31) < (rh 31).length) (hL : (px_form (rh 31) (px_col (rh 31)) P op).length ≤ 60) : jj_Ct l D aC base yn_MO_order yb_MO_order 4 none 2 0 0 [.ref y] h (fun q h' => q = none ∧ RR aC h' y ad (jr_up rh 32 (px_form (rh 31) (px_col (rh 31)) P op)) sg mu io ∧ jj_fr (rr_S y ad) h h') := by
  obtain ⟨hlen, hch⟩ := hR.len (r := 31) (by decide)
  subst hW
  unfold px_form at hL
  rw [List.length_append, List.length_append, px_seg_len (by omega)] at hL
  refine jj_start (tb := tb_MO_order) (by decide) tg_MO_order (Nat.le_of_ble_eq_true rfl) ?_
  intro p e s m args below meth cc C
  have put : ∀ (h1 h' : jjHp) (X : List Nat) (c : Nat), RR aC h1 y ad (jr_up rh 32 X) sg mu io → jr_T aC h' y (ad 0) (ad 1) (rr_fs ad io) (jr_up (jr_up rh 32 X) 32 (jr_up rh 32 X 32 ++ [c])) → jj_fr [ad 0, ad 1] h1 h' → RR aC h' y ad (jr_up rh 32 (X ++ [c])) sg mu io ∧ jj_fr (rr_S y ad) h1 h' := by
    intro h1 h' X c hR1 hT' hf
    rw [jr_up_s, jr_up_up] at hT'
    exact ⟨hR1.text hT' hf, rr_fr01 hf⟩
  -- the end
  have fin : ∀ (b : Bool) (h1 : jjHp) (v : Int32), (b = true ↔ ¬ px_ord (rh 31) P 26 = []) → RR aC h1 y ad (jr_up rh 32 (px_seg (rh 31) 0 (px_col (rh 31) + 1) ++ px_ord (rh 31) P 26)) sg mu io → jj_fr (rr_S y ad) h h1 → jj_J p l e (jj_rm 2 0 0) s m args below meth cc D base 4 (MQ below (jj_Q D base (fun q h' => q = none ∧ RR aC h' y ad (jr_up rh 32 (px_form (rh 31) (px_col (rh 31)) P op)) sg mu io ∧ jj_fr (rr_S y ad) h h')) args s 0 0 (jj_A base)) 97 [(0, .ref y), (1, .int (nI (px_col (rh 31)))), (2, .int (jb_I b)), (3, .int v)] [] h1 0 0 := by
    intro b h1 v hb hR1 hf1
    rcases jb_cases op with ⟨o1, o2⟩ | ⟨o1, o2⟩
    rotate_left
    · refine jj_go C 1 rfl ?_
      refine jj_getf C rfl fl_MO_102 hR1.oy rfl ?_
      refine jj_if C rfl (fun _ => ?_) (fun z => absurd (hop.trans o2) z)
      refine jj_go C 1 rfl ?_
      refine jj_getf C rfl fl_MO_102 hR1.oy rfl ?_
      refine jj_if C rfl (fun _ => ?_) (fun z => absurd (hop.trans o2) z)
      refine jj_vret C rfl rfl (Nat.le_refl _) (Nat.le_refl _) ⟨rfl, ?_, hf1⟩
      unfold px_form px_tail
      rw [if_neg (by rw [o1]; decide), List.append_nil]
      exact hR1
    · have star : ∀ (X : List Nat) (h2 : jjHp), X.length < 60 → X ++ [42] = px_form (rh 31) (px_col (rh 31)) P op → RR aC h2 y ad (jr_up rh 32 X) sg mu io → jj_fr (rr_S y ad) h h2 → jj_J p l e (jj_rm 2 0 0) s m args below meth cc D base 4 (MQ below (jj_Q D base (fun q h' => q = none ∧ RR aC h' y ad (jr_up rh 32 (px_form (rh 31) (px_col (rh 31)) P op)) sg mu io ∧ jj_fr (rr_S y ad) h h')) args s 0 0 (jj_A base)) 116 [(0, .ref y), (1, .int (nI (px_col (rh 31)))), (2, .int (jb_I b)), (3, .int v)] [] h2 0 0 := by
        intro X h2 hX hX2 hR2 hf2
        refine jj_go C 1 rfl ?_
        refine jj_getf C rfl fl_MO_102 hR2.oy rfl ?_
        refine jj_if C rfl (fun z => absurd ((hop.trans o2).symm.trans z) (by decide)) (fun _ => ?_)
        refine jj_go C 3 rfl ?_
        refine jj_callV C rfl ml_MO_87 wd_968 hR2.oy rfl se_MO_MO_put (mo_put (r := 32) (k := 42) hR2.oT (by decide) (by rw [jr_up_s]; exact hX) (by decide)) (rest := []) rfl rfl ⟨Nat.le_of_ble_eq_true rfl, Nat.le_of_ble_eq_true rfl⟩ (Nat.le_of_ble_eq_true rfl) (Nat.le_of_ble_eq_true rfl) (Nat.le_of_ble_eq_true rfl) ?_
        rintro q9 h3 ⟨rfl, hT3, hf3⟩
        obtain ⟨hR3, hf3⟩ := put _ _ _ _ hR2 hT3 hf3
        rw [hX2] at hR3
        exact jj_vret C rfl rfl (Nat.le_of_ble_eq_true rfl) (Nat.le_of_ble_eq_true rfl) ⟨rfl, hR3, hf2.tr hf3⟩
      refine jj_go C 1 rfl ?_
      refine jj_getf C rfl fl_MO_102 hR1.oy rfl ?_
      refine jj_if C rfl (fun z => absurd ((hop.trans o2).symm.trans z) (by decide)) (fun _ => ?_)
      refine jj_go C 1 rfl ?_
      cases b with
      | false =>
        have ho : px_ord (rh 31) P 26 = [] := by
          by_cases q : px_ord (rh 31) P 26 = []
          · exact q
          · cases hb.mpr q
        refine jj_if C rfl (fun _ => ?_) (fun z => absurd rfl z)
        unfold px_tail at hL
        rw [ho, o1] at hL
        rw [ho] at hR1
        refine star _ h1 ?_ ?_ hR1 hf1
        · rw [List.length_append, px_seg_len (by omega)]
          simp at hL ⊢
          omega
        · unfold px_form px_tail
          rw [ho, o1]
          simp
      | true =>
        have ho := hb.mp rfl
        unfold px_tail at hL
        rw [if_pos o1, if_neg ho] at hL
        refine jj_if C rfl (fun z => absurd z (by decide)) (fun _ => ?_)
        refine jj_go C 3 rfl ?_
        refine jj_callV C rfl ml_MO_87 wd_968 hR1.oy rfl se_MO_MO_put (mo_put (r := 32) (k := 44) hR1.oT (by decide) (by rw [jr_up_s, List.length_append, px_seg_len (by omega)]; simp at hL; omega) (by decide)) (rest := []) rfl rfl ⟨Nat.le_of_ble_eq_true rfl, Nat.le_of_ble_eq_true rfl⟩ (Nat.le_of_ble_eq_true rfl) (Nat.le_of_ble_eq_true rfl) (Nat.le_of_ble_eq_true rfl) ?_
        rintro q9 h3 ⟨rfl, hT3, hf3⟩
        obtain ⟨hR3, hf3⟩ := put _ _ _ _ hR1 hT3 hf3
        refine star _ h3 ?_ ?_ hR3 (hf1.tr hf3)
        · rw [List.length_append, List.length_append, px_seg_len (by omega)]
          simp at hL ⊢
          omega
        · unfold px_form px_tail
          rw [if_pos o1, if_neg ho]
          simp
  -- the keys
  have keys : ∀ (k j : Nat) (v : Int32) (b : Bool) (h1 : jjHp), v = nI j → j + k = 26 → (b = true ↔ ¬ px_ord (rh 31) P j = []) → RR aC h1 y ad (jr_up rh 32 (px_seg (rh 31) 0 (px_col (rh 31) + 1) ++ px_ord (rh 31) P j)) sg mu io → jj_fr (rr_S y ad) h h1 → jj_J p l e (jj_rm 2 0 0) s m args below meth cc D base 4 (MQ below (jj_Q D base (fun q h' => q = none ∧ RR aC h' y ad (jr_up rh 32 (px_form (rh 31) (px_col (rh 31)) P op)) sg mu io ∧ jj_fr (rr_S y ad) h h')) args s 0 0 (jj_A base)) 45 [(0, .ref y), (1, .int (nI (px_col (rh 31)))), (2, .int (jb_I b)), (3, .int v)] [] h1 0 0 := by
    intro k
    induction k with
    | zero =>
      intro j v b h1 hv hk hb hR1 hf1
      have hj : j = 26 := by omega
      subst hj
      refine jj_go C 2 rfl ?_
      refine jj_if C rfl (fun _ => ?_) (fun z => absurd (by rw [hv]; decide) z)
      exact fin b h1 v hb hR1 hf1
    | succ k ih =>
      intro j v b h1 hv hk hb hR1 hf1
      have hlt : j < 26 := by omega
      have hcell := hR1.oc (k := 21) (by decide) (by decide) (by decide)
      refine jj_go C 2 rfl ?_
      refine jj_if C rfl (fun z => absurd z (by rw [hv]; exact nI_ge (b := 26) hlt (by decide))) (fun _ => ?_)
      refine jj_go C 1 rfl ?_
      refine jj_getf C rfl fl_MO_68 hR1.oy rfl ?_
      refine jj_go C 1 rfl ?_
      refine jj_iald C (n := 26) (f := sg 21) rfl hcell hv hlt (by decide) ?_
      rcases hw j hlt with ⟨w1, w2⟩ | ⟨p0, w1, w3, w2⟩
      · rw [w2]
        refine jj_if C rfl (fun z => absurd z (by decide)) (fun _ => ?_)
        refine jj_go C 3 rfl ?_
        refine ih (j + 1) (v + 1) b h1 (by rw [hv, nI_1]) (by omega) ?_ ?_ hf1
        · rw [px_ord_none w1]
          exact hb
        · rw [px_ord_none w1]
          exact hR1
      · rw [w2]
        have hg := hgd j p0 w1
        have hE3 := hg.2.2.2.1
        have hEl := hg.2.2.2.2.2.1
        have hord := px_ord_some (t := rh 31) w1
        have h26 := px_ord_26 (t := rh 31) (P := P) (show j + 1 ≤ 26 by omega)
        refine jj_if C rfl (fun _ => ?_) (fun z => absurd (nI_pos' (by omega)) z)
        have copy : ∀ (X : List Nat) (h2 : jjHp), X.length + (px_re (rh 31) true (p0 + 2) - p0) ≤ 60 → X ++ px_seg (rh 31) p0 (px_re (rh 31) true (p0 + 2)) = px_seg (rh 31) 0 (px_col (rh 31) + 1) ++ px_ord (rh 31) P (j + 1) → RR aC h2 y ad (jr_up rh 32 X) sg mu io → jj_fr (rr_S y ad) h h2 → jj_J p l e (jj_rm 2 0 0) s m args below meth cc D base 4 (MQ below (jj_Q D base (fun q h' => q = none ∧ RR aC h' y ad (jr_up rh 32 (px_form (rh 31) (px_col (rh 31)) P op)) sg mu io ∧ jj_fr (rr_S y ad) h h')) args s 0 0 (jj_A base)) 75 [(0, .ref y), (1, .int (nI (px_col (rh 31)))), (2, .int (jb_I b)), (3, .int v)] [] h2 0 0 := by
          intro X h2 hX hX2 hR2 hf2
          have hcell2 := hR2.oc (k := 21) (by decide) (by decide) (by decide)
          refine jj_go C 3 rfl ?_
          refine jj_getf C rfl fl_MO_68 hR2.oy rfl ?_
          refine jj_go C 1 rfl ?_
          refine jj_iald C (n := 26) (f := sg 21) rfl hcell2 hv hlt (by decide) ?_
          refine jj_top w2 ?_
          refine jj_go C 1 rfl ?_
          have h31 : jr_up rh 32 X 31 = rh 31 := jr_up_n (by decide)
          refine jj_callV C rfl ml_MO_118 wd_1017 hR2.oy rfl se_MO_MO_copyProperty (mo_copyProperty (r := 31) (t := 32) (p0 := p0) (E := px_re (rh 31) true (p0 + 2)) hR2.oT (by decide) (by decide) (by decide) (by omega) (by rw [h31]; exact hEl) (by rw [h31]; exact px_gd_no hg) (by rw [h31]; exact hg.2.2.2.2.2.2) (by rw [jr_up_s]; exact hX)) (rest := []) rfl rfl ⟨Nat.le_of_ble_eq_true rfl, Nat.le_of_ble_eq_true rfl⟩ (Nat.le_of_ble_eq_true rfl) (Nat.le_of_ble_eq_true rfl) (Nat.le_of_ble_eq_true rfl) ?_
          rintro q9 h3 ⟨rfl, hT3, hf3⟩
          rw [h31, jr_up_s, jr_up_up, hX2] at hT3
          have hR3 := hR2.text hT3 hf3
          refine jj_go C 4 rfl ?_
          refine ih (j + 1) (v + 1) true h3 (by rw [hv, nI_1]) (by omega) ⟨fun _ q => ?_, fun _ => rfl⟩ hR3 (hf2.tr (rr_fr01 hf3))
          have := congrArg List.length (hord.symm.trans q)
          rw [List.length_append, List.length_append, px_seg_len hEl] at this
          simp at this
          omega
        rw [hord, List.length_append, List.length_append, px_seg_len hEl] at h26
        refine jj_go C 1 rfl ?_
        cases b with
        | false =>
          have ho : px_ord (rh 31) P j = [] := by
            by_cases q : px_ord (rh 31) P j = []
            · exact q
            · cases hb.mpr q
          refine jj_if C rfl (fun _ => ?_) (fun z => absurd rfl z)
          refine copy _ h1 ?_ ?_ hR1 hf1
          · rw [List.length_append, px_seg_len (by omega)]
            simp at h26 ⊢
            omega
          · rw [hord, ho]
            simp
        | true =>
          have ho := hb.mp rfl
          rw [if_neg ho] at h26 hord
          refine jj_if C rfl (fun z => absurd z (by decide)) (fun _ => ?_)
          refine jj_go C 3 rfl ?_
          refine jj_callV C rfl ml_MO_87 wd_968 hR1.oy rfl se_MO_MO_put (mo_put (r := 32) (k := 44) hR1.oT (by decide) (by rw [jr_up_s, List.length_append, px_seg_len (by omega)]; simp at h26; omega) (by decide)) (rest := []) rfl rfl ⟨Nat.le_of_ble_eq_true rfl, Nat.le_of_ble_eq_true rfl⟩ (Nat.le_of_ble_eq_true rfl) (Nat.le_of_ble_eq_true rfl) (Nat.le_of_ble_eq_true rfl) ?_
          rintro q9 h3 ⟨rfl, hT3, hf3⟩
          obtain ⟨hR3, hf3⟩ := put _ _ _ _ hR1 hT3 hf3
          refine copy _ h3 ?_ ?_ hR3 (hf1.tr hf3)
          · rw [List.length_append, List.length_append, px_seg_len (by omega)]
            simp at h26 ⊢
            omega
          · rw [hord]
            simp
  -- the domain
  have dom : ∀ (k j : Nat) (v : Int32) (h1 : jjHp), v = nI j → j + k = px_col (rh 31) + 1 → RR aC h1 y ad (jr_up rh 32 (px_seg (rh 31) 0 j)) sg mu io → jj_fr (rr_S y ad) h h1 → jj_J p l e (jj_rm 2 0 0) s m args below meth cc D base 4 (MQ below (jj_Q D base (fun q h' => q = none ∧ RR aC h' y ad (jr_up rh 32 (px_form (rh 31) (px_col (rh 31)) P op)) sg mu io ∧ jj_fr (rr_S y ad) h h')) args s 0 0 (jj_A base)) 17 [(0, .ref y), (1, .int (nI (px_col (rh 31)))), (2, .int v)] [] h1 0 0 := by
    intro k
    induction k with
    | zero =>
      intro j v h1 hv hk hR1 hf1
      have hj : j = px_col (rh 31) + 1 := by omega
      subst hj
      refine jj_go C 2 rfl ?_
      refine jj_if C rfl (fun _ => ?_) (fun z => absurd (by rw [hv]; exact (nI_ltI (by omega) (by omega)).mpr (by omega)) z)
      refine jj_go C 4 rfl ?_
      exact keys 26 0 0 false h1 nI_0.symm (by omega) ⟨fun q => (by cases q), fun q => absurd rfl q⟩ (by rw [show px_ord (rh 31) P 0 = [] from rfl, List.append_nil]; exact hR1) hf1
    | succ k ih =>
      intro j v h1 hv hk hR1 hf1
      have hcj := hch j
      have h31 : jr_up rh 32 (px_seg (rh 31) 0 j) 31 = rh 31 := jr_up_n (by decide)
      refine jj_go C 2 rfl ?_
      refine jj_if C rfl (fun z => ?_) (fun z => ?_)
      · rw [hv] at z
        have := (nI_ltI (a := px_col (rh 31)) (b := j) (by omega) (by omega)).mp z
        omega
      refine jj_go C 5 rfl ?_
      refine jj_callV C rfl ml_MO_83 wd_988 hR1.oy rfl se_MO_MO_get1 (rr_get1 (r := 31) (x := v) hR1 (by decide)) (rest := [.int 32, .ref y]) rfl rfl ⟨Nat.le_of_ble_eq_true rfl, Nat.le_of_ble_eq_true rfl⟩ (Nat.le_of_ble_eq_true rfl) (Nat.le_of_ble_eq_true rfl) (Nat.le_of_ble_eq_true rfl) ?_
      rintro q9 h9 ⟨rfl, hh9⟩
      rw [hh9]
      have eg : jr_g (jr_up rh 32 (px_seg (rh 31) 0 j) 31) v = (rh 31).getD j 0 := by rw [h31, hv, jr_g_n (by omega)]
      rw [eg]
      refine jj_callV C rfl ml_MO_87 wd_968 hR1.oy rfl se_MO_MO_put (mo_put (r := 32) (k := (rh 31).getD j 0) hR1.oT (by decide) (by rw [jr_up_s, px_seg_len (by omega)]; omega) (by omega)) (rest := []) rfl rfl ⟨Nat.le_of_ble_eq_true rfl, Nat.le_of_ble_eq_true rfl⟩ (Nat.le_of_ble_eq_true rfl) (Nat.le_of_ble_eq_true rfl) (Nat.le_of_ble_eq_true rfl) ?_
      rintro q9 h3 ⟨rfl, hT3, hf3⟩
      obtain ⟨hR3, hf3⟩ := put _ _ _ _ hR1 hT3 hf3
      rw [px_seg_succ (Nat.zero_le _) (by omega)] at hR3
      refine jj_go C 2 rfl ?_
      exact ih (j + 1) (v + 1) h3 (by rw [hv, nI_1]) (by omega) hR3 (hf1.tr hf3)
  obtain ⟨hy, f0, f1, hne, L, S, g0, g1, hRR⟩ := hR.oT
  have n1 : ad 1 ≠ y := kx_ne (m := 0) (aC := aC) hy g1
  refine jj_go C 1 rfl ?_
  refine jj_getf C rfl fl_MO_13 hy f1 ?_
  refine jj_go C 2 rfl ?_
  refine jj_iast C (j := 32) rfl g1 rfl (by decide) (by decide) ?_
  have hf1 : jj_fr [ad 0, ad 1] h (jj_up h (ad 1) (.inl (aC 0, 34, .inl (upd S 32 0)))) := jj_fr.rf.up (Or.inl (List.mem_cons_of_mem _ List.mem_cons_self))
  have hR1 : RR aC (jj_up h (ad 1) (.inl (aC 0, 34, .inl (upd S 32 0)))) y ad (jr_up rh 32 []) sg mu io := hR.text ⟨(jj_up_n (Ne.symm n1)).trans hy, f0, f1, hne, L, upd S 32 0, (jj_up_n hne).trans g0, jj_up_s, jr_R_clear hRR⟩ hf1
  generalize (jj_up h (ad 1) (.inl (aC 0, 34, .inl (upd S 32 0)))) = h1 at hR1 hf1 ⊢
  refine jj_go C 2 rfl ?_
  refine jj_callV C rfl ml_MO_110 wd_996 hR1.oy rfl se_MO_MO_colon (mo_colon (r := 31) hR1.oT (by decide)) (rest := []) rfl rfl ⟨Nat.le_of_ble_eq_true rfl, Nat.le_of_ble_eq_true rfl⟩ (Nat.le_of_ble_eq_true rfl) (Nat.le_of_ble_eq_true rfl) (Nat.le_of_ble_eq_true rfl) ?_
  rintro q9 h9 ⟨rfl, hh9⟩
  rw [hh9]
  rw [show jr_up rh 32 [] 31 = rh 31 from jr_up_n (by decide)]
  refine jj_go C 3 rfl ?_
  exact dom (px_col (rh 31) + 1) 0 0 h1 nI_0.symm (by omega) (by rw [px_seg_nil]; exact hR1) (rr_fr01 hf1)
end MC
