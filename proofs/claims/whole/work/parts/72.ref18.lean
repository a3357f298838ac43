/-! The reference: truth, check -/
section MTT
variable {l : Launch} {D : va_G} {aC : Nat → ClassId} {base : Nat} {h : jjHp} {y : Nat} {ad : Nat → Nat} {rh : Nat → List Nat} {sg : Nat → Nat → Int32} {mu : Nat → Int64} {io : Nat → Int32}
theorem rr_truth {r bn j0 k0 AA : Nat} {f : Nat → Nat → List Nat} {A : (Nat → Option Int32) → Nat} (hR : RR aC h y ad rh sg mu io) (hr : r < 34) (hb : bn < 12) (hbn : ¬ sg 2 bn = 0) (hQ : QQ 2 (rh r) f j0 k0 A) (hct : (rh r).count 40 < 12) (hA : A (rr_E sg bn) = AA) : jj_Ct l D aC base yn_MO_truth yb_MO_truth 8 (some .int) 6 0 0 [.ref y, .int (nI r), .int (nI bn)] h (fun q h' => q = some (.int (nI AA)) ∧ (∃ F1 F2 F3 F4 io', RR aC h' y ad rh (qm_g sg F1 F2 F3 F4) mu io' ∧ ∀ k, k ≠ 27 → k ≠ 28 → io' k = io k) ∧ jj_fr (rr_S y ad) h h') := by
  obtain ⟨hlen, hch⟩ := hR.len hr
  have hle := hQ.le2 (rr_E sg bn)
  rw [hA] at hle
  have hiu : ∀ p1 b1 k, k ≠ 27 → k ≠ 28 → iu io p1 b1 k = io k := by
    intro p1 b1 k h1 h2
    unfold iu upd
    rw [if_neg h1, if_neg h2]
  refine jj_start (tb := tb_MO_truth) (by decide) tg_MO_truth (Nat.le_of_ble_eq_true rfl) ?_
  intro p e s m args below meth cc C
  have head : ∀ (p1 w c : Nat) (h1 : jjHp) (F1 F2 F3 F4 : Nat → Int32), p1 < (rh r).length → (rh r).getD p1 0 = c → RR aC h1 y ad rh (qm_g sg F1 F2 F3 F4) mu (iu io p1 false) → jj_J p l e (jj_rm 6 0 0) s m args below meth cc D base 8 (MQ below (jj_Q D base (fun q h' => q = some (.int (nI AA)) ∧ (∃ F1 F2 F3 F4 io', RR aC h' y ad rh (qm_g sg F1 F2 F3 F4) mu io' ∧ ∀ k, k ≠ 27 → k ≠ 28 → io' k = io k) ∧ jj_fr (rr_S y ad) h h')) args s 0 0 (jj_A base)) 42 [(0, .ref y), (1, .int (nI r)), (2, .int (nI bn)), (3, .int (nI w)), (4, .int (nI c))] [] h1 0 0 → jj_J p l e (jj_rm 6 0 0) s m args below meth cc D base 8 (MQ below (jj_Q D base (fun q h' => q = some (.int (nI AA)) ∧ (∃ F1 F2 F3 F4 io', RR aC h' y ad rh (qm_g sg F1 F2 F3 F4) mu io' ∧ ∀ k, k ≠ 27 → k ≠ 28 → io' k = io k) ∧ jj_fr (rr_S y ad) h h')) args s 0 0 (jj_A base)) 18 [(0, .ref y), (1, .int (nI r)), (2, .int (nI bn)), (3, .int (nI w))] [] h1 0 0 := by
    intro p1 w c h1 F1 F2 F3 F4 hp1 hc hR1 hj
    obtain ⟨hy, f0, f1, hne, L, S, g0, g1, hRR⟩ := hR1.oT
    have r1 := (hRR r hr).1
    refine jj_go C 1 rfl ?_
    refine jj_getf C rfl fl_MO_216 hy rfl ?_
    refine jj_top (show iu io p1 false 28 = nI p1 from rfl) ?_
    refine jj_go C 1 rfl ?_
    refine jj_getf C rfl fl_MO_13 hy f1 ?_
    refine jj_go C 1 rfl ?_
    refine jj_iald C (j := r) rfl g1 rfl hr (by decide) ?_
    refine jj_top r1 ?_
    refine jj_if C rfl (fun z => absurd z (nI_ge hp1 (by omega))) (fun _ => ?_)
    refine jj_go C 3 rfl ?_
    refine jj_getf C rfl fl_MO_216 hy rfl ?_
    refine jj_top (show iu io p1 false 28 = nI p1 from rfl) ?_
    refine jj_callV C rfl ml_MO_83 wd_988 hy rfl se_MO_MO_get1 (rr_get1 (r := r) (x := nI p1) hR1 hr) (rest := []) rfl rfl ⟨Nat.le_of_ble_eq_true rfl, Nat.le_of_ble_eq_true rfl⟩ (Nat.le_of_ble_eq_true rfl) (Nat.le_of_ble_eq_true rfl) (Nat.le_of_ble_eq_true rfl) ?_
    rintro q9 h9 ⟨rfl, hh9⟩
    rw [hh9]
    rw [jr_g_n (by omega), hc]
    refine jj_go C 1 rfl ?_
    exact hj
  have put28 : ∀ (p1 : Nat) (h1 : jjHp) (F1 F2 F3 F4 : Nat → Int32), RR aC h1 y ad rh (qm_g sg F1 F2 F3 F4) mu (iu io p1 false) → jj_fr (rr_S y ad) h h1 → RR aC (jj_up h1 y (.inr (9, (rr_fs ad (iu io p1 false)).set 28 (.int (nI (p1 + 1)))))) y ad rh (qm_g sg F1 F2 F3 F4) mu (iu io (p1 + 1) false) ∧ jj_fr (rr_S y ad) h (jj_up h1 y (.inr (9, (rr_fs ad (iu io p1 false)).set 28 (.int (nI (p1 + 1)))))) := by
    intro p1 h1 F1 F2 F3 F4 hR1 hf1
    exact ⟨hR1.put rfl, hf1.up (Or.inl rr_S_y)⟩
  have run := QQ.truth (t := rh r) (E := rr_E sg bn) (H2 := AA = 2) (W := fun p1 w L a b tu => w < 12 → ∀ (h1 : jjHp) (F1 F2 F3 F4 : Nat → Int32), qm_h w F1 L → qm_h w F2 a → qm_h w F3 b → qm_h w F4 tu → RR aC h1 y ad rh (qm_g sg F1 F2 F3 F4) mu (iu io p1 false) → jj_fr (rr_S y ad) h h1 → jj_J p l e (jj_rm 6 0 0) s m args below meth cc D base 8 (MQ below (jj_Q D base (fun q h' => q = some (.int (nI AA)) ∧ (∃ F1 F2 F3 F4 io', RR aC h' y ad rh (qm_g sg F1 F2 F3 F4) mu io' ∧ ∀ k, k ≠ 27 → k ≠ 28 → io' k = io k) ∧ jj_fr (rr_S y ad) h h')) args s 0 0 (jj_A base)) 18 [(0, .ref y), (1, .int (nI r)), (2, .int (nI bn)), (3, .int (nI w))] [] h1 0 0) (by
      intro p1 w L a b tu hp1 hc hw hnext hw2 h1 F1 F2 F3 F4 q1 q2 q3 q4 hR1 hf1
      refine head p1 w 33 h1 F1 F2 F3 F4 hp1 hc hR1 ?_
      have hR0 := hR1
      have fin : ∀ v : Bool, (!tu w) = v → jj_J p l e (jj_rm 6 0 0) s m args below meth cc D base 8 (MQ below (jj_Q D base (fun q h' => q = some (.int (nI AA)) ∧ (∃ F1 F2 F3 F4 io', RR aC h' y ad rh (qm_g sg F1 F2 F3 F4) mu io' ∧ ∀ k, k ≠ 27 → k ≠ 28 → io' k = io k) ∧ jj_fr (rr_S y ad) h h')) args s 0 0 (jj_A base)) 68 [(0, .ref y), (1, .int (nI r)), (2, .int (nI bn)), (3, .int (nI w)), (4, .int (nI 33))] [.int (jb_I v), .int (nI w), .ref (ad 26)] h1 0 0 := by
        intro v hv
        refine jj_zast C (n := 12) (f := F4) (j := w) rfl (hR1.oc (k := 26) (by decide) (by decide) (by decide)) rfl (by omega) (by decide) ?_
        have hR2 := hR1.set (k := 26) (by decide) (by decide) (by decide) (upd F4 w (vp_nar .boolean (jb_I v)))
        have hf2 := hf1.up (a := ad 26) (x := .inl (aC (rr_ty 26), rr_len 26, .inl (upd F4 w (vp_nar .boolean (jb_I v))))) (Or.inl (rr_S_k (by decide)))
        generalize hh2 : (jj_up h1 (ad 26) (.inl (aC (rr_ty 26), rr_len 26, .inl (upd F4 w (vp_nar .boolean (jb_I v)))))) = h2 at hR2 hf2
        refine jj_eq (h' := h2) rfl rfl rfl hh2 ?_
        rw [jb_nar', qm_g_26] at hR2
        refine jj_go C 2 rfl ?_
        refine jj_getf C rfl fl_MO_216 hR2.oy rfl ?_
        refine jj_top (show iu io p1 false 28 = nI p1 from rfl) ?_
        refine jj_go C 2 rfl ?_
        refine jj_top (nI_1 p1) ?_
        refine jj_putf C rfl fl_MO_216 hR2.oy rfl rfl (Nat.le_of_ble_eq_true rfl) ?_
        obtain ⟨hR3, hf3⟩ := put28 p1 h2 _ _ _ _ hR2 hf2
        refine jj_go C 2 rfl ?_
        refine jj_less (lc' := [(0, .ref y), (1, .int (nI r)), (2, .int (nI bn)), (3, .int (nI w))]) (fun q hq => List.mem_append_left [_] hq) (Nat.le_refl _) (Nat.le_refl _) ?_
        exact hnext hw2 _ _ _ _ _ q1 q2 q3 (by rw [hv]; exact qm_h_u q4) hR3 hf3
      refine jj_go C 2 rfl ?_
      refine jj_if C rfl (fun _ => ?_) (fun z => absurd rfl z)
      refine jj_go C 1 rfl ?_
      refine jj_getf C rfl fl_MO_80 hR1.oy rfl ?_
      refine jj_go C 2 rfl ?_
      refine jj_getf C rfl fl_MO_80 hR1.oy rfl ?_
      refine jj_go C 1 rfl ?_
      refine jj_zald C (n := 12) (f := F4) rfl (hR1.oc (k := 26) (by decide) (by decide) (by decide)) rfl hw (by decide) ?_
      refine jj_top (q4 w (Nat.le_refl _)) ?_
      cases htu : tu w with
      | true =>
        refine jj_if C rfl (fun z => absurd z (by decide)) (fun _ => ?_)
        refine jj_go C 1 rfl ?_
        exact fin false (by rw [htu]; rfl)
      | false =>
        refine jj_if C rfl (fun _ => ?_) (fun z => absurd rfl z)
        refine jj_go C 2 rfl ?_
        exact fin true (by rw [htu]; rfl)) (by
      intro p1 w L a b tu hp1 hc hw hnext hw2 h1 F1 F2 F3 F4 q1 q2 q3 q4 hR1 hf1
      refine head p1 w 40 h1 F1 F2 F3 F4 hp1 hc hR1 ?_
      refine jj_go C 2 rfl ?_
      refine jj_if C rfl (fun z => absurd z (by decide)) (fun _ => ?_)
      refine jj_go C 2 rfl ?_
      refine jj_if C rfl (fun _ => ?_) (fun z => absurd rfl z)
      refine jj_go C 4 rfl ?_
      refine jj_top (nI_1 w) ?_
      refine jj_go C 2 rfl ?_
      refine jj_callV C rfl ml_MO_235 wd_1128 hR1.oy rfl se_MO_MO_looked (rr_looked (w := w) hR1 hw2 (q1 w (Nat.le_refl _)) (q2 w (Nat.le_refl _)) (q3 w (Nat.le_refl _))) (rest := [.int (nI (w + 1)), .ref y]) rfl rfl ⟨Nat.le_of_ble_eq_true rfl, Nat.le_of_ble_eq_true rfl⟩ (Nat.le_of_ble_eq_true rfl) (Nat.le_of_ble_eq_true rfl) (Nat.le_of_ble_eq_true rfl) ?_
      rintro q9 h9 ⟨rfl, hh9⟩
      rw [hh9]
      refine jj_callV C rfl ml_MO_231 wd_1124 hR1.oy rfl se_MO_MO_enter (rr_enter (w := w + 1) (lk := L w && !a w && b w) hR1 hw) (rest := []) rfl rfl ⟨Nat.le_of_ble_eq_true rfl, Nat.le_of_ble_eq_true rfl⟩ (Nat.le_of_ble_eq_true rfl) (Nat.le_of_ble_eq_true rfl) (Nat.le_of_ble_eq_true rfl) ?_
      rintro q9 h2 ⟨rfl, hR2, hf2⟩
      have hf2 := hf1.tr hf2
      refine jj_go C 3 rfl ?_
      refine jj_getf C rfl fl_MO_216 hR2.oy rfl ?_
      refine jj_top (show iu io p1 false 28 = nI p1 from rfl) ?_
      refine jj_go C 2 rfl ?_
      refine jj_top (nI_1 p1) ?_
      refine jj_putf C rfl fl_MO_216 hR2.oy rfl rfl (Nat.le_of_ble_eq_true rfl) ?_
      obtain ⟨hR3, hf3⟩ := put28 p1 h2 _ _ _ _ hR2 hf2
      refine jj_go C 2 rfl ?_
      refine jj_less (lc' := [(0, .ref y), (1, .int (nI r)), (2, .int (nI bn)), (3, .int (nI w + 1))]) (fun q hq => List.mem_append_left [_] hq) (Nat.le_refl _) (Nat.le_refl _) ?_
      rw [nI_1]
      exact hnext hw _ _ _ _ _ (qm_h_s q1) (qm_h_s q2) (qm_h_s q3) (qm_h_s q4) hR3 hf3) (by
      intro p1 w L a b tu hp1 hc hw hnext hw2 h1 F1 F2 F3 F4 q1 q2 q3 q4 hR1 hf1
      refine head p1 (w + 1) 41 h1 F1 F2 F3 F4 hp1 hc hR1 ?_
      have fin : ∀ v : Bool, (a (w + 1) || b (w + 1)) = v → jj_J p l e (jj_rm 6 0 0) s m args below meth cc D base 8 (MQ below (jj_Q D base (fun q h' => q = some (.int (nI AA)) ∧ (∃ F1 F2 F3 F4 io', RR aC h' y ad rh (qm_g sg F1 F2 F3 F4) mu io' ∧ ∀ k, k ≠ 27 → k ≠ 28 → io' k = io k) ∧ jj_fr (rr_S y ad) h h')) args s 0 0 (jj_A base)) 147 [(0, .ref y), (1, .int (nI r)), (2, .int (nI bn)), (3, .int (nI (w + 1))), (4, .int (nI 41))] [.int (jb_I v)] h1 0 0 := by
        intro v hv
        have ew : ∀ x : Int32, nI (w + 1) = x → x + (-1) = nI w := fun x q => by rw [← q]; exact nI_m1
        generalize nI (w + 1) = x at ew ⊢
        have ew := ew x rfl
        refine jj_go C 3 rfl ?_
        refine jj_eq (lc' := [(0, .ref y), (1, .int (nI r)), (2, .int (nI bn)), (3, .int (nI w)), (4, .int (nI 41)), (5, .int (jb_I v))]) rfl (by rw [← ew]; rfl) rfl rfl ?_
        refine jj_go C 2 rfl ?_
        refine jj_callV C rfl ml_MO_238 wd_1132 hR1.oy rfl se_MO_MO_settle (rr_settle (w := w) (rr := v) hR1 (by omega) (q3 w (by omega)) (q4 w (by omega))) (rest := []) rfl rfl ⟨Nat.le_of_ble_eq_true rfl, Nat.le_of_ble_eq_true rfl⟩ (Nat.le_of_ble_eq_true rfl) (Nat.le_of_ble_eq_true rfl) (Nat.le_of_ble_eq_true rfl) ?_
        rintro q9 h2 ⟨rfl, hR2, hf2⟩
        have hf2 := hf1.tr hf2
        refine jj_go C 2 rfl ?_
        refine jj_getf C rfl fl_MO_216 hR2.oy rfl ?_
        refine jj_top (show iu io p1 false 28 = nI p1 from rfl) ?_
        refine jj_go C 2 rfl ?_
        refine jj_top (nI_1 p1) ?_
        refine jj_putf C rfl fl_MO_216 hR2.oy rfl rfl (Nat.le_of_ble_eq_true rfl) ?_
        obtain ⟨hR3, hf3⟩ := put28 p1 h2 _ _ _ _ hR2 hf2
        refine jj_go C 2 rfl ?_
        refine jj_less (lc' := [(0, .ref y), (1, .int (nI r)), (2, .int (nI bn)), (3, .int (nI w))]) (fun q hq => List.mem_append_left [_, _] hq) (Nat.le_refl _) (Nat.le_refl _) ?_
        exact hnext (by omega) _ _ _ _ _ (qm_h_d q1) (qm_h_d q2) (by rw [hv]; exact qm_h_u (qm_h_d q3)) (qm_h_u (qm_h_d q4)) hR3 hf3
      refine jj_go C 2 rfl ?_
      refine jj_if C rfl (fun z => absurd z (by decide)) (fun _ => ?_)
      refine jj_go C 2 rfl ?_
      refine jj_if C rfl (fun z => absurd z (by decide)) (fun _ => ?_)
      refine jj_go C 2 rfl ?_
      refine jj_if C rfl (fun _ => ?_) (fun z => absurd rfl z)
      refine jj_go C 1 rfl ?_
      refine jj_getf C rfl fl_MO_74 hR1.oy rfl ?_
      refine jj_go C 1 rfl ?_
      refine jj_zald C (n := 12) (f := F2) rfl (hR1.oc (k := 24) (by decide) (by decide) (by decide)) rfl hw (by decide) ?_
      refine jj_top (q2 (w + 1) (Nat.le_refl _)) ?_
      cases ha : a (w + 1) with
      | true =>
        refine jj_if C rfl (fun z => absurd z (by decide)) (fun _ => ?_)
        refine jj_go C 2 rfl ?_
        exact fin true (by rw [ha]; rfl)
      | false =>
        refine jj_if C rfl (fun _ => ?_) (fun z => absurd rfl z)
        refine jj_go C 1 rfl ?_
        refine jj_getf C rfl fl_MO_77 hR1.oy rfl ?_
        refine jj_go C 1 rfl ?_
        refine jj_zald C (n := 12) (f := F3) rfl (hR1.oc (k := 25) (by decide) (by decide) (by decide)) rfl hw (by decide) ?_
        refine jj_top (q3 (w + 1) (Nat.le_refl _)) ?_
        cases hbb : b (w + 1) with
        | true =>
          refine jj_if C rfl (fun z => absurd z (by decide)) (fun _ => ?_)
          refine jj_go C 2 rfl ?_
          exact fin true (by rw [ha, hbb]; rfl)
        | false =>
          refine jj_if C rfl (fun _ => ?_) (fun z => absurd rfl z)
          refine jj_go C 1 rfl ?_
          exact fin false (by rw [ha, hbb]; rfl)) (by
      intro p1 w L a b tu hp1 hc hw hnext hw2 h1 F1 F2 F3 F4 q1 q2 q3 q4 hR1 hf1
      refine head p1 w 38 h1 F1 F2 F3 F4 hp1 hc hR1 ?_
      refine jj_go C 2 rfl ?_
      refine jj_if C rfl (fun z => absurd z (by decide)) (fun _ => ?_)
      refine jj_go C 2 rfl ?_
      refine jj_if C rfl (fun z => absurd z (by decide)) (fun _ => ?_)
      refine jj_go C 2 rfl ?_
      refine jj_if C rfl (fun z => absurd z (by decide)) (fun _ => ?_)
      refine jj_go C 2 rfl ?_
      refine jj_if C rfl (fun _ => ?_) (fun z => absurd rfl z)
      refine jj_go C 2 rfl ?_
      refine jj_getf C rfl fl_MO_216 hR1.oy rfl ?_
      refine jj_top (show iu io p1 false 28 = nI p1 from rfl) ?_
      refine jj_go C 2 rfl ?_
      refine jj_top (nI_1 p1) ?_
      refine jj_putf C rfl fl_MO_216 hR1.oy rfl rfl (Nat.le_of_ble_eq_true rfl) ?_
      obtain ⟨hR3, hf3⟩ := put28 p1 h1 _ _ _ _ hR1 hf1
      refine jj_go C 2 rfl ?_
      refine jj_less (lc' := [(0, .ref y), (1, .int (nI r)), (2, .int (nI bn)), (3, .int (nI w))]) (fun q hq => List.mem_append_left [_] hq) (Nat.le_refl _) (Nat.le_refl _) ?_
      exact hnext hw _ _ _ _ _ q1 q2 q3 q4 hR3 hf3) (by
      intro p1 w L a b tu hp1 hc hw hnext hw2 h1 F1 F2 F3 F4 q1 q2 q3 q4 hR1 hf1
      refine head p1 w 124 h1 F1 F2 F3 F4 hp1 hc hR1 ?_
      have fin : ∀ v : Bool, (a w || b w) = v → jj_J p l e (jj_rm 6 0 0) s m args below meth cc D base 8 (MQ below (jj_Q D base (fun q h' => q = some (.int (nI AA)) ∧ (∃ F1 F2 F3 F4 io', RR aC h' y ad rh (qm_g sg F1 F2 F3 F4) mu io' ∧ ∀ k, k ≠ 27 → k ≠ 28 → io' k = io k) ∧ jj_fr (rr_S y ad) h h')) args s 0 0 (jj_A base)) 227 [(0, .ref y), (1, .int (nI r)), (2, .int (nI bn)), (3, .int (nI w)), (4, .int (nI 124))] [.int (jb_I v), .int (nI w), .ref (ad 24)] h1 0 0 := by
        intro v hv
        refine jj_zast C (n := 12) (f := F2) (j := w) rfl (hR1.oc (k := 24) (by decide) (by decide) (by decide)) rfl (by omega) (by decide) ?_
        have hR2 := hR1.set (k := 24) (by decide) (by decide) (by decide) (upd F2 w (vp_nar .boolean (jb_I v)))
        have hf2 := hf1.up (a := ad 24) (x := .inl (aC (rr_ty 24), rr_len 24, .inl (upd F2 w (vp_nar .boolean (jb_I v))))) (Or.inl (rr_S_k (by decide)))
        generalize hh2 : (jj_up h1 (ad 24) (.inl (aC (rr_ty 24), rr_len 24, .inl (upd F2 w (vp_nar .boolean (jb_I v)))))) = h2 at hR2 hf2
        refine jj_eq (h' := h2) rfl rfl rfl hh2 ?_
        rw [jb_nar', qm_g_24] at hR2
        refine jj_go C 1 rfl ?_
        refine jj_getf C rfl fl_MO_77 hR2.oy rfl ?_
        refine jj_go C 2 rfl ?_
        refine jj_zast C (n := 12) (f := F3) (j := w) rfl (hR2.oc (k := 25) (by decide) (by decide) (by decide)) rfl (by omega) (by decide) ?_
        have hR3 := hR2.set (k := 25) (by decide) (by decide) (by decide) (upd F3 w (jb_I true))
        have hf3 := hf2.up (a := ad 25) (x := .inl (aC (rr_ty 25), rr_len 25, .inl (upd F3 w (jb_I true)))) (Or.inl (rr_S_k (by decide)))
        generalize hh3 : (jj_up h2 (ad 25) (.inl (aC (rr_ty 25), rr_len 25, .inl (upd F3 w (jb_I true))))) = h3 at hR3 hf3
        refine jj_eq (h' := h3) rfl rfl rfl hh3 ?_
        rw [qm_g_25] at hR3
        refine jj_go C 2 rfl ?_
        refine jj_getf C rfl fl_MO_216 hR3.oy rfl ?_
        refine jj_top (show iu io p1 false 28 = nI p1 from rfl) ?_
        refine jj_go C 2 rfl ?_
        refine jj_top (nI_1 p1) ?_
        refine jj_putf C rfl fl_MO_216 hR3.oy rfl rfl (Nat.le_of_ble_eq_true rfl) ?_
        obtain ⟨hR4, hf4⟩ := put28 p1 h3 _ _ _ _ hR3 hf3
        refine jj_go C 2 rfl ?_
        refine jj_less (lc' := [(0, .ref y), (1, .int (nI r)), (2, .int (nI bn)), (3, .int (nI w))]) (fun q hq => List.mem_append_left [_] hq) (Nat.le_refl _) (Nat.le_refl _) ?_
        exact hnext hw _ _ _ _ _ q1 (by rw [hv]; exact qm_h_u q2) (qm_h_u q3) q4 hR4 hf4
      refine jj_go C 2 rfl ?_
      refine jj_if C rfl (fun z => absurd z (by decide)) (fun _ => ?_)
      refine jj_go C 2 rfl ?_
      refine jj_if C rfl (fun z => absurd z (by decide)) (fun _ => ?_)
      refine jj_go C 2 rfl ?_
      refine jj_if C rfl (fun z => absurd z (by decide)) (fun _ => ?_)
      refine jj_go C 2 rfl ?_
      refine jj_if C rfl (fun z => absurd z (by decide)) (fun _ => ?_)
      refine jj_go C 2 rfl ?_
      refine jj_if C rfl (fun _ => ?_) (fun z => absurd rfl z)
      refine jj_go C 1 rfl ?_
      refine jj_getf C rfl fl_MO_74 hR1.oy rfl ?_
      refine jj_go C 2 rfl ?_
      refine jj_getf C rfl fl_MO_74 hR1.oy rfl ?_
      refine jj_go C 1 rfl ?_
      refine jj_zald C (n := 12) (f := F2) rfl (hR1.oc (k := 24) (by decide) (by decide) (by decide)) rfl hw (by decide) ?_
      refine jj_top (q2 w (Nat.le_refl _)) ?_
      cases ha : a w with
      | true =>
        refine jj_if C rfl (fun z => absurd z (by decide)) (fun _ => ?_)
        refine jj_go C 2 rfl ?_
        exact fin true (by rw [ha]; rfl)
      | false =>
        refine jj_if C rfl (fun _ => ?_) (fun z => absurd rfl z)
        refine jj_go C 1 rfl ?_
        refine jj_getf C rfl fl_MO_77 hR1.oy rfl ?_
        refine jj_go C 1 rfl ?_
        refine jj_zald C (n := 12) (f := F3) rfl (hR1.oc (k := 25) (by decide) (by decide) (by decide)) rfl hw (by decide) ?_
        refine jj_top (q3 w (Nat.le_refl _)) ?_
        cases hbb : b w with
        | true =>
          refine jj_if C rfl (fun z => absurd z (by decide)) (fun _ => ?_)
          refine jj_go C 2 rfl ?_
          exact fin true (by rw [ha, hbb]; rfl)
        | false =>
          refine jj_if C rfl (fun _ => ?_) (fun z => absurd rfl z)
          refine jj_go C 1 rfl ?_
          exact fin false (by rw [ha, hbb]; rfl)) (by
      intro p1 w L a b tu u o c0 u' o' rest he hk hk' hc0 hd hw hh2 hnext hw2 h1 F1 F2 F3 F4 q1 q2 q3 q4 hR1 hf1
      have hne : 0 < (qv_t u o ++ c0 :: qv_t u' o').length := by
        rw [List.length_append, List.length_cons]
        omega
      have hp1 : p1 < (rh r).length := by
        have := congrArg List.length he
        rw [List.length_drop, List.length_append] at this
        omega
      generalize hcc : (rh r).getD p1 0 = c
      have hcn : qs_n c := by
        refine qv_c_n hk hk' hc0 c ?_
        rw [← hcc, ← qd_hd, he]
        cases hq : qv_t u o ++ c0 :: qv_t u' o' with
        | nil =>
          rw [hq] at hne
          exact absurd hne (Nat.lt_irrefl _)
        | cons d s9 => exact List.mem_cons_self
      have hc128 := hch p1
      rw [hcc] at hc128
      obtain ⟨n1, n2, n3, n4, n5, -⟩ := hcn
      refine head p1 w c h1 F1 F2 F3 F4 hp1 hcc hR1 ?_
      refine jj_go C 2 rfl ?_
      refine jj_if C rfl (fun z => absurd ((nI_eq (a := c) (b := 33) (by omega) (by decide)).mp z) n5) (fun _ => ?_)
      refine jj_go C 2 rfl ?_
      refine jj_if C rfl (fun z => absurd ((nI_eq (a := c) (b := 40) (by omega) (by decide)).mp z) n1) (fun _ => ?_)
      refine jj_go C 2 rfl ?_
      refine jj_if C rfl (fun z => absurd ((nI_eq (a := c) (b := 41) (by omega) (by decide)).mp z) n2) (fun _ => ?_)
      refine jj_go C 2 rfl ?_
      refine jj_if C rfl (fun z => absurd ((nI_eq (a := c) (b := 38) (by omega) (by decide)).mp z) n3) (fun _ => ?_)
      refine jj_go C 2 rfl ?_
      refine jj_if C rfl (fun z => absurd ((nI_eq (a := c) (b := 124) (by omega) (by decide)).mp z) n4) (fun _ => ?_)
      refine jj_go C 2 rfl ?_
      refine jj_callV C rfl ml_MO_235 wd_1128 hR1.oy rfl se_MO_MO_looked (rr_looked (w := w) hR1 hw2 (q1 w (Nat.le_refl _)) (q2 w (Nat.le_refl _)) (q3 w (Nat.le_refl _))) (rest := []) rfl rfl ⟨Nat.le_of_ble_eq_true rfl, Nat.le_of_ble_eq_true rfl⟩ (Nat.le_of_ble_eq_true rfl) (Nat.le_of_ble_eq_true rfl) (Nat.le_of_ble_eq_true rfl) ?_
      rintro q9 h9 ⟨rfl, hh9⟩
      rw [hh9]
      refine jj_go C 2 rfl ?_
      refine jj_getf C rfl fl_MO_219 hR1.oy rfl ?_
      refine jj_top (show iu io p1 false 27 = jb_I false from rfl) ?_
      refine jj_go C 4 rfl ?_
      refine jj_callV C rfl ml_MO_241 wd_1136 hR1.oy rfl se_MO_MO_comparison (rr_comparison (r := r) (b := bn) hR1 hr hb hbn he hk hk' hc0 hd) (rest := []) rfl rfl ⟨Nat.le_of_ble_eq_true rfl, Nat.le_of_ble_eq_true rfl⟩ (Nat.le_of_ble_eq_true rfl) (Nat.le_of_ble_eq_true rfl) (Nat.le_of_ble_eq_true rfl) ?_
      rintro q9 h2 ⟨rr, rfl, hrr, hR2, hf2⟩
      have hf2 := hf1.tr hf2
      have hrr : qv_a (rr_E sg bn) u o c0 u' o' ≠ 2 → rr = (qv_a (rr_E sg bn) u o c0 u' o' == 1) := hrr
      have hR2 : RR aC h2 y ad rh (qm_g sg F1 F2 F3 F4) mu (iu io (p1 + (qv_t u o ++ c0 :: qv_t u' o').length) (qv_a (rr_E sg bn) u o c0 u' o' == 2)) := hR2
      generalize p1 + (qv_t u o ++ c0 :: qv_t u' o').length = p2 at hnext hR2
      have cont : ((L w && !a w && b w) = true → qv_a (rr_E sg bn) u o c0 u' o' ≠ 2) → jj_J p l e (jj_rm 6 0 0) s m args below meth cc D base 8 (MQ below (jj_Q D base (fun q h' => q = some (.int (nI AA)) ∧ (∃ F1 F2 F3 F4 io', RR aC h' y ad rh (qm_g sg F1 F2 F3 F4) mu io' ∧ ∀ k, k ≠ 27 → k ≠ 28 → io' k = io k) ∧ jj_fr (rr_S y ad) h h')) args s 0 0 (jj_A base)) 283 [(0, .ref y), (1, .int (nI r)), (2, .int (nI bn)), (3, .int (nI w)), (4, .int (nI c)), (5, .int (jb_I (L w && !a w && b w))), (6, .int (jb_I false)), (7, .int (jb_I rr))] [] h2 0 0 := by
        intro hlk
        refine jj_go C 2 rfl ?_
        refine jj_putf C rfl fl_MO_219 hR2.oy rfl rfl (Nat.le_of_ble_eq_true rfl) ?_
        have hR3 : RR aC (jj_up h2 y (.inr (9, (rr_fs ad (iu io p2 (qv_a (rr_E sg bn) u o c0 u' o' == 2))).set 27 (.int (jb_I false))))) y ad rh (qm_g sg F1 F2 F3 F4) mu (iu io p2 false) := hR2.put rfl
        have hf3 : jj_fr (rr_S y ad) h (jj_up h2 y (.inr (9, (rr_fs ad (iu io p2 (qv_a (rr_E sg bn) u o c0 u' o' == 2))).set 27 (.int (jb_I false))))) := hf2.up (Or.inl rr_S_y)
        generalize (jj_up h2 y (.inr (9, (rr_fs ad (iu io p2 (qv_a (rr_E sg bn) u o c0 u' o' == 2))).set 27 (.int (jb_I false))))) = h3 at hR3 hf3 ⊢
        refine jj_go C 3 rfl ?_
        refine jj_callV C rfl ml_MO_238 wd_1132 hR3.oy rfl se_MO_MO_settle (rr_settle (w := w) (rr := rr) hR3 hw2 (q3 w (Nat.le_refl _)) (q4 w (Nat.le_refl _))) (rest := []) rfl rfl ⟨Nat.le_of_ble_eq_true rfl, Nat.le_of_ble_eq_true rfl⟩ (Nat.le_of_ble_eq_true rfl) (Nat.le_of_ble_eq_true rfl) (Nat.le_of_ble_eq_true rfl) ?_
        rintro q9 h4 ⟨rfl, hR4, hf4⟩
        have hf4 := hf3.tr hf4
        refine jj_go C 1 rfl ?_
        refine jj_less (lc' := [(0, .ref y), (1, .int (nI r)), (2, .int (nI bn)), (3, .int (nI w))]) (fun q hq => List.mem_append_left [_, _, _, _] hq) (Nat.le_refl _) (Nat.le_refl _) ?_
        exact hnext rr hrr hlk hw2 _ _ _ _ _ q1 q2 (qm_h_u q3) (qm_h_u q4) hR4 hf4
      refine jj_go C 2 rfl ?_
      cases hlk : (L w && !a w && b w) with
      | false =>
        refine jj_if C rfl (fun _ => ?_) (fun z => absurd rfl z)
        rw [hlk] at cont
        exact cont (fun q => by cases q)
      | true =>
        refine jj_if C rfl (fun z => absurd z (by decide)) (fun _ => ?_)
        refine jj_go C 1 rfl ?_
        refine jj_getf C rfl fl_MO_219 hR2.oy rfl ?_
        refine jj_top (show iu io p2 (qv_a (rr_E sg bn) u o c0 u' o' == 2) 27 = jb_I (qv_a (rr_E sg bn) u o c0 u' o' == 2) from rfl) ?_
        rw [hlk] at cont
        cases hv : (qv_a (rr_E sg bn) u o c0 u' o' == 2) with
        | false =>
          have hv2 : qv_a (rr_E sg bn) u o c0 u' o' ≠ 2 := by simpa using hv
          refine jj_if C rfl (fun _ => ?_) (fun z => absurd rfl z)
          exact cont (fun _ => hv2)
        | true =>
          have hv2 : qv_a (rr_E sg bn) u o c0 u' o' = 2 := by simpa using hv
          refine jj_if C rfl (fun z => absurd z (by decide)) (fun _ => ?_)
          refine jj_go C 1 rfl ?_
          have hAA := hh2 hlk hv2
          exact jj_iret C rfl rfl rfl (Nat.le_of_ble_eq_true rfl) (Nat.le_of_ble_eq_true rfl) ⟨by rw [hAA]; rfl, ⟨F1, F2, F3, F4, _, hR2, hiu _ _⟩, hf2⟩) hQ
  have hrun := run.2 0 [] 0 (fun _ => true) (fun _ => false) (fun _ => true) (fun _ => false) (by rw [List.drop_zero, List.append_nil]) ⟨rfl, rfl⟩ (by omega) rfl rfl (fun _ q => by rw [← hA]; exact q) (by
      intro L' a' b' tu' e1 e2 e3 e4 e5 e7 e8 e9 hw h1 F1 F2 F3 F4 q1 q2 q3 q4 hR1 hf1
      obtain ⟨e8a, e8b⟩ := e8 rfl
      rw [hA] at e8a e8b
      rw [Nat.zero_add] at hR1
      obtain ⟨hy, f0, f1, hne, L, S, g0, g1, hRR⟩ := hR1.oT
      have r1 := (hRR r hr).1
      refine jj_go C 1 rfl ?_
      refine jj_getf C rfl fl_MO_216 hy rfl ?_
      refine jj_top (show iu io (rh r).length false 28 = nI (rh r).length from rfl) ?_
      refine jj_go C 1 rfl ?_
      refine jj_getf C rfl fl_MO_13 hy f1 ?_
      refine jj_go C 1 rfl ?_
      refine jj_iald C (j := r) rfl g1 rfl hr (by decide) ?_
      refine jj_top r1 ?_
      refine jj_if C rfl (fun _ => ?_) (fun z => absurd (nI_le (Nat.le_refl _) (by omega)) z)
      refine jj_go C 1 rfl ?_
      refine jj_getf C rfl fl_MO_74 hy rfl ?_
      refine jj_go C 1 rfl ?_
      refine jj_zald C (n := 12) (f := F2) (j := 0) rfl (hR1.oc (k := 24) (by decide) (by decide) (by decide)) rfl hw (by decide) ?_
      refine jj_top (q2 0 (Nat.le_refl _)) ?_
      have one : (a' 0 || b' 0) = true → (some (Value.int 1) = some (.int (nI AA))) := by
        intro q
        rw [e8b] at q
        have : AA = 1 := by simpa using q
        rw [this]
        rfl
      have zero : (a' 0 || b' 0) = false → (some (Value.int 0) = some (.int (nI AA))) := by
        intro q
        rw [e8b] at q
        have h1 : ¬ AA = 1 := by simpa using q
        have : AA = 0 := by omega
        rw [this]
        rfl
      cases ha : a' 0 with
      | true =>
        refine jj_if C rfl (fun z => absurd z (by decide)) (fun _ => ?_)
        refine jj_go C 2 rfl ?_
        exact jj_iret C rfl rfl rfl (Nat.le_of_ble_eq_true rfl) (Nat.le_of_ble_eq_true rfl) ⟨one (by rw [ha]; rfl), ⟨F1, F2, F3, F4, _, hR1, hiu _ _⟩, hf1⟩
      | false =>
        refine jj_if C rfl (fun _ => ?_) (fun z => absurd rfl z)
        refine jj_go C 1 rfl ?_
        refine jj_getf C rfl fl_MO_77 hy rfl ?_
        refine jj_go C 1 rfl ?_
        refine jj_zald C (n := 12) (f := F3) (j := 0) rfl (hR1.oc (k := 25) (by decide) (by decide) (by decide)) rfl hw (by decide) ?_
        refine jj_top (q3 0 (Nat.le_refl _)) ?_
        cases hbb : b' 0 with
        | true =>
          refine jj_if C rfl (fun z => absurd z (by decide)) (fun _ => ?_)
          refine jj_go C 2 rfl ?_
          exact jj_iret C rfl rfl rfl (Nat.le_of_ble_eq_true rfl) (Nat.le_of_ble_eq_true rfl) ⟨one (by rw [ha, hbb]; rfl), ⟨F1, F2, F3, F4, _, hR1, hiu _ _⟩, hf1⟩
        | false =>
          refine jj_if C rfl (fun _ => ?_) (fun z => absurd rfl z)
          refine jj_go C 1 rfl ?_
          exact jj_iret C rfl rfl rfl (Nat.le_of_ble_eq_true rfl) (Nat.le_of_ble_eq_true rfl) ⟨zero (by rw [ha, hbb]; rfl), ⟨F1, F2, F3, F4, _, hR1, hiu _ _⟩, hf1⟩)
  refine jj_go C 4 rfl ?_
  refine jj_putf C rfl fl_MO_219 hR.oy rfl rfl (Nat.le_of_ble_eq_true rfl) ?_
  have hR1 : RR aC (jj_up h y (.inr (9, (rr_fs ad io).set 27 (.int 0)))) y ad rh sg mu (upd io 27 0) := hR.put rfl
  have hf1 : jj_fr (rr_S y ad) h (jj_up h y (.inr (9, (rr_fs ad io).set 27 (.int 0)))) := jj_fr.rf.up (Or.inl rr_S_y)
  generalize (jj_up h y (.inr (9, (rr_fs ad io).set 27 (.int 0)))) = h1 at hR1 hf1 ⊢
  refine jj_go C 2 rfl ?_
  refine jj_putf C rfl fl_MO_216 hR1.oy rfl rfl (Nat.le_of_ble_eq_true rfl) ?_
  have hR2 : RR aC (jj_up h1 y (.inr (9, (rr_fs ad (upd io 27 0)).set 28 (.int 0)))) y ad rh sg mu (iu io 0 false) := hR1.put rfl
  have hf2 : jj_fr (rr_S y ad) h (jj_up h1 y (.inr (9, (rr_fs ad (upd io 27 0)).set 28 (.int 0)))) := hf1.up (Or.inl rr_S_y)
  generalize (jj_up h1 y (.inr (9, (rr_fs ad (upd io 27 0)).set 28 (.int 0)))) = h2 at hR2 hf2 ⊢
  rw [← qm_g_self (sg := sg)] at hR2
  refine jj_go C 3 rfl ?_
  refine jj_callV C rfl ml_MO_231 wd_1124 hR2.oy rfl se_MO_MO_enter (rr_enter (w := 0) (lk := true) hR2 (by decide)) (rest := []) rfl rfl ⟨Nat.le_of_ble_eq_true rfl, Nat.le_of_ble_eq_true rfl⟩ (Nat.le_of_ble_eq_true rfl) (Nat.le_of_ble_eq_true rfl) (Nat.le_of_ble_eq_true rfl) ?_
  rintro q9 h3 ⟨rfl, hR3, hf3⟩
  refine hrun (by decide) h3 _ _ _ _ ?_ ?_ ?_ ?_ hR3 (hf2.tr hf3)
  · intro i hi
    rw [Nat.le_zero.mp hi]
    rfl
  · intro i hi
    rw [Nat.le_zero.mp hi]
    rfl
  · intro i hi
    rw [Nat.le_zero.mp hi]
    rfl
  · intro i hi
    rw [Nat.le_zero.mp hi]
    rfl
end MTT
