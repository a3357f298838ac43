/-! The reference: gaugeOf, observe1, observe -/
def gg_f (M : Int64) (lo hi v : Int32) : Option (Int32 × Int64) := if ¬ v < hi ∧ ¬ M = 1 then some (3, 1) else if v ≤ lo ∧ ¬ M = -1 then some (4, -1) else none
/-- what a monitor finds -/
def ob_v (rh : Nat → List Nat) (sg : Nat → Nat → Int32) (m : Nat) : Option Int32 := match px_bw (sg 2) rh (rh (12 + m)) 12 0 with
  | none => none
  | some b => if sg 4 (5 * b + (sg 7 m).toNatClampNeg) = 0 then none else some (sg 3 (5 * b + (sg 7 m).toNatClampNeg))
abbrev obS : Type := (Nat → Nat → Int32) × (Nat → Int64) × (Nat → Int32)
def ob_e (sg : Nat → Nat → Int32) (mu : Nat → Int64) (io : Nat → Int32) (m : Nat) : obS := if sg 14 m = 0 then (gv_sg (va_up sg 14 (upd (sg 14) m 1)) io 5 (nI m) 0, mu, gv_io io 5) else (va_up sg 14 (upd (sg 14) m 1), mu, io)
def ob_c (sg : Nat → Nat → Int32) (mu : Nat → Int64) (io : Nat → Int32) (m : Nat) (v : Int32) : obS :=
  (if (cn_f (mu m) (sg 11 m) (sg 12 m) (sg 13 m) (sg 8 m) (sg 9 m) v).1 = true then gv_sg (cn_sg sg m v (cn_f (mu m) (sg 11 m) (sg 12 m) (sg 13 m) (sg 8 m) (sg 9 m) v).2.2) io 2 (nI m) v else cn_sg sg m v (cn_f (mu m) (sg 11 m) (sg 12 m) (sg 13 m) (sg 8 m) (sg 9 m) v).2.2, vp_updL mu m (cn_f (mu m) (sg 11 m) (sg 12 m) (sg 13 m) (sg 8 m) (sg 9 m) v).2.1, if (cn_f (mu m) (sg 11 m) (sg 12 m) (sg 13 m) (sg 8 m) (sg 9 m) v).1 = true then gv_io io 2 else io)
def ob_g (sg : Nat → Nat → Int32) (mu : Nat → Int64) (io : Nat → Int32) (m : Nat) (v : Int32) : obS := match gg_f (mu m) (sg 8 m) (sg 9 m) v with
  | none => (sg, mu, io)
  | some (k, M) => (gv_sg sg io k (nI m) v, vp_updL mu m M, gv_io io k)
/-- a monitor looks -/
def ob_1 (rh : Nat → List Nat) (m : Nat) (s : obS) : obS := match ob_v rh s.1 m with
  | none => ob_e s.1 s.2.1 s.2.2 m
  | some v => if s.1 6 m = 1 then ob_c (va_up s.1 14 (upd (s.1 14) m 0)) s.2.1 s.2.2 m v else ob_g (va_up s.1 14 (upd (s.1 14) m 0)) s.2.1 s.2.2 m v
def ob_all (rh : Nat → List Nat) : Nat → Nat → obS → obS
  | 0, _, s => s
  | k + 1, j, s => ob_all rh k (j + 1) (if s.1 6 j ≤ 0 then s else ob_1 rh j s)
theorem cn_sg_n {sg : Nat → Nat → Int32} {m : Nat} {v R : Int32} {k : Nat} (h : k < 11 ∨ 13 < k) : cn_sg sg m v R k = sg k := by
  unfold cn_sg va_up
  rw [if_neg (by omega), if_neg (by omega), if_neg (by omega)]
theorem ob_c_n {sg : Nat → Nat → Int32} {mu : Nat → Int64} {io : Nat → Int32} {m : Nat} {v : Int32} {k : Nat} (h : k < 11) : (ob_c sg mu io m v).1 k = sg k := by
  unfold ob_c
  by_cases hF : (cn_f (mu m) (sg 11 m) (sg 12 m) (sg 13 m) (sg 8 m) (sg 9 m) v).1 = true
  · simp only [if_pos hF]
    rw [gv_sg_n (by omega), cn_sg_n (Or.inl h)]
  · simp only [if_neg hF]
    rw [cn_sg_n (Or.inl h)]
theorem ob_1_n {rh : Nat → List Nat} {m : Nat} {s : obS} {k : Nat} (h : k < 11) : (ob_1 rh m s).1 k = s.1 k := by
  have h14 : ∀ f : Nat → Int32, va_up s.1 14 f k = s.1 k := fun f => if_neg (by omega)
  unfold ob_1
  split
  · unfold ob_e
    split
    · show gv_sg _ _ _ _ _ k = _
      rw [gv_sg_n (by omega), h14]
    · exact h14 _
  · split
    · exact (ob_c_n h).trans (h14 _)
    · unfold ob_g
      split
      · exact h14 _
      · show gv_sg _ _ _ _ _ k = _
        rw [gv_sg_n (by omega), h14]
section MO2
variable {l : Launch} {D : va_G} {aC : Nat → ClassId} {base : Nat} {h : jjHp} {y : Nat} {ad : Nat → Nat} {rh : Nat → List Nat} {sg : Nat → Nat → Int32} {mu : Nat → Int64} {io : Nat → Int32}
theorem rr_gaugeOf {mm : Nat} {v : Int32} (hR : RR aC h y ad rh sg mu io) (hm : mm < 6) : jj_Ct l D aC base yn_MO_gaugeOf yb_MO_gaugeOf 3 none 1 0 0 [.ref y, .int (nI mm), .int v] h (fun q h' => q = none ∧ RR aC h' y ad rh (ob_g sg mu io mm v).1 (ob_g sg mu io mm v).2.1 (ob_g sg mu io mm v).2.2 ∧ jj_fr (rr_S y ad) h h') := by
  refine jj_start (tb := tb_MO_gaugeOf) (by decide) tg_MO_gaugeOf (Nat.le_of_ble_eq_true rfl) ?_
  intro p e s m args below meth cc C
  have hf0 : jj_fr (rr_S y ad) h h := jj_fr.rf
  have hR0 := hR
  have hy := hR.oy
  have c8 := hR.oc (k := 8) (by decide) (by decide) (by decide)
  have c9 := hR.oc (k := 9) (by decide) (by decide) (by decide)
  have quiet : gg_f (mu mm) (sg 8 mm) (sg 9 mm) v = none → jj_J p l e (jj_rm 1 0 0) s m args below meth cc D base 3 (MQ below (jj_Q D base (fun q h' => q = none ∧ RR aC h' y ad rh (ob_g sg mu io mm v).1 (ob_g sg mu io mm v).2.1 (ob_g sg mu io mm v).2.2 ∧ jj_fr (rr_S y ad) h h')) args s 0 0 (jj_A base)) 77 [(0, .ref y), (1, .int (nI mm)), (2, .int v)] [] h 0 0 := by
    intro hg
    have hob : ob_g sg mu io mm v = (sg, mu, io) := by
      unfold ob_g
      rw [hg]
    rw [hob]
    exact jj_vret C rfl rfl (Nat.le_of_ble_eq_true rfl) (Nat.le_of_ble_eq_true rfl) ⟨rfl, hR, hf0⟩
  have low : ¬ (¬ v < sg 9 mm ∧ ¬ mu mm = 1) → jj_J p l e (jj_rm 1 0 0) s m args below meth cc D base 3 (MQ below (jj_Q D base (fun q h' => q = none ∧ RR aC h' y ad rh (ob_g sg mu io mm v).1 (ob_g sg mu io mm v).2.1 (ob_g sg mu io mm v).2.2 ∧ jj_fr (rr_S y ad) h h')) args s 0 0 (jj_A base)) 38 [(0, .ref y), (1, .int (nI mm)), (2, .int v)] [] h 0 0 := by
    intro hn
    refine jj_go C 2 rfl ?_
    refine jj_getf C rfl fl_MO_36 hy rfl ?_
    refine jj_go C 1 rfl ?_
    refine jj_iald C (n := 6) (f := sg 8) (j := mm) rfl c8 rfl hm (by decide) ?_
    refine jj_if C rfl (fun z => quiet (by unfold gg_f; rw [if_neg hn, if_neg (fun q => absurd z (Int32.not_lt.mpr q.1))])) (fun z1 => ?_)
    have z1 : v ≤ sg 8 mm := Int32.not_lt.mp z1
    refine jj_go C 1 rfl ?_
    refine jj_getf C rfl fl_MO_42 hy rfl ?_
    refine jj_go C 1 rfl ?_
    refine jj_lald C (n := 6) (f := mu) (j := mm) rfl hR.om rfl hm (by decide) ?_
    refine jj_ldcl C rfl wd_1214 ?_
    refine jj_go C 1 rfl ?_
    refine jj_if C rfl (fun z => quiet (by unfold gg_f; rw [if_neg hn, if_neg (fun q => q.2 ((lg_cmp_eq _ _).mp z))])) (fun z => ?_)
    have z2 : ¬ mu mm = -1 := fun q => z ((lg_cmp_eq _ _).mpr q)
    have hob : ob_g sg mu io mm v = (gv_sg sg io 4 (nI mm) v, vp_updL mu mm (-1), gv_io io 4) := by
      unfold ob_g gg_f
      rw [if_neg hn, if_pos ⟨z1, z2⟩]
    rw [hob]
    refine jj_go C 1 rfl ?_
    refine jj_getf C rfl fl_MO_42 hy rfl ?_
    refine jj_go C 1 rfl ?_
    refine jj_ldcl C rfl wd_1214 ?_
    refine jj_last C (n := 6) (f := mu) (j := mm) rfl hR0.om rfl (by omega) (by decide) ?_
    have hR1 := hR0.mark (vp_updL mu mm (-1))
    have hf1 := hf0.up (a := ad 10) (x := .inl (aC 3, 6, .inr (.inl (vp_updL mu mm (-1))))) (Or.inl (rr_S_k (by decide)))
    generalize hh1 : (jj_up h (ad 10) (.inl (aC 3, 6, .inr (.inl (vp_updL mu mm (-1)))))) = h1 at hR1 hf1
    refine jj_eq (h' := h1) rfl rfl rfl (by first | exact hh1 | rfl) ?_
    refine jj_go C 4 rfl ?_
    refine jj_callV C rfl ml_MO_164 wd_1029 hR1.oy rfl se_MO_MO_give (As := [.int 4, .int (nI mm), .int v]) (rr_give hR1) (rest := []) rfl rfl ⟨Nat.le_of_ble_eq_true rfl, Nat.le_of_ble_eq_true rfl⟩ (Nat.le_of_ble_eq_true rfl) (Nat.le_of_ble_eq_true rfl) (Nat.le_of_ble_eq_true rfl) ?_
    rintro q9 h2 ⟨rfl, hR2, hf2⟩
    exact jj_vret C rfl rfl (Nat.le_of_ble_eq_true rfl) (Nat.le_of_ble_eq_true rfl) ⟨rfl, hR2, hf1.tr hf2⟩
  refine jj_go C 2 rfl ?_
  refine jj_getf C rfl fl_MO_39 hy rfl ?_
  refine jj_go C 1 rfl ?_
  refine jj_iald C (n := 6) (f := sg 9) (j := mm) rfl c9 rfl hm (by decide) ?_
  refine jj_if C rfl (fun z => low (fun q => q.1 z)) (fun z1 => ?_)
  refine jj_go C 1 rfl ?_
  refine jj_getf C rfl fl_MO_42 hy rfl ?_
  refine jj_go C 1 rfl ?_
  refine jj_lald C (n := 6) (f := mu) (j := mm) rfl hR.om rfl hm (by decide) ?_
  refine jj_go C 2 rfl ?_
  refine jj_if C rfl (fun z => low (fun q => q.2 ((lg_cmp_eq _ _).mp z))) (fun z => ?_)
  have z2 : ¬ mu mm = 1 := fun q => z ((lg_cmp_eq _ _).mpr q)
  have hob : ob_g sg mu io mm v = (gv_sg sg io 3 (nI mm) v, vp_updL mu mm 1, gv_io io 3) := by
    unfold ob_g gg_f
    rw [if_pos ⟨z1, z2⟩]
  rw [hob]
  refine jj_go C 1 rfl ?_
  refine jj_getf C rfl fl_MO_42 hy rfl ?_
  refine jj_go C 2 rfl ?_
  refine jj_last C (n := 6) (f := mu) (j := mm) rfl hR0.om rfl (by omega) (by decide) ?_
  have hR1 := hR0.mark (vp_updL mu mm 1)
  have hf1 := hf0.up (a := ad 10) (x := .inl (aC 3, 6, .inr (.inl (vp_updL mu mm 1)))) (Or.inl (rr_S_k (by decide)))
  generalize hh1 : (jj_up h (ad 10) (.inl (aC 3, 6, .inr (.inl (vp_updL mu mm 1))))) = h1 at hR1 hf1
  refine jj_eq (h' := h1) rfl rfl rfl (by first | exact hh1 | rfl) ?_
  refine jj_go C 4 rfl ?_
  refine jj_callV C rfl ml_MO_164 wd_1029 hR1.oy rfl se_MO_MO_give (As := [.int 3, .int (nI mm), .int v]) (rr_give hR1) (rest := []) rfl rfl ⟨Nat.le_of_ble_eq_true rfl, Nat.le_of_ble_eq_true rfl⟩ (Nat.le_of_ble_eq_true rfl) (Nat.le_of_ble_eq_true rfl) (Nat.le_of_ble_eq_true rfl) ?_
  rintro q9 h2 ⟨rfl, hR2, hf2⟩
  refine jj_go C 1 rfl ?_
  exact jj_vret C rfl rfl (Nat.le_of_ble_eq_true rfl) (Nat.le_of_ble_eq_true rfl) ⟨rfl, hR2, hf1.tr hf2⟩
set_option maxHeartbeats 1000000 in
theorem rr_observe1 {mm w : Nat} (hR : RR aC h y ad rh sg mu io) (hm : mm < 6) (hw : w < 5) (h7 : sg 7 mm = nI w) : jj_Ct l D aC base yn_MO_observe1 yb_MO_observe1 5 none 3 0 0 [.ref y, .int (nI mm)] h (fun q h' => q = none ∧ RR aC h' y ad rh (ob_1 rh mm (sg, mu, io)).1 (ob_1 rh mm (sg, mu, io)).2.1 (ob_1 rh mm (sg, mu, io)).2.2 ∧ jj_fr (rr_S y ad) h h') := by
  refine jj_start (tb := tb_MO_observe1) (by decide) tg_MO_observe1 (Nat.le_of_ble_eq_true rfl) ?_
  intro p e s m args below meth cc C
  have hf0 : jj_fr (rr_S y ad) h h := jj_fr.rf
  have hR0 := hR
  have hy := hR.oy
  have c4 := hR.oc (k := 4) (by decide) (by decide) (by decide)
  have c7 := hR.oc (k := 7) (by decide) (by decide) (by decide)
  have c14 := hR.oc (k := 14) (by decide) (by decide) (by decide)
  have cl7 : (sg 7 mm).toNatClampNeg = w := by rw [h7, nI_clamp (by omega)]
  -- there is nothing to see
  have err : ∀ v2 : Int32, ob_v rh sg mm = none → jj_J p l e (jj_rm 3 0 0) s m args below meth cc D base 5 (MQ below (jj_Q D base (fun q h' => q = none ∧ RR aC h' y ad rh (ob_1 rh mm (sg, mu, io)).1 (ob_1 rh mm (sg, mu, io)).2.1 (ob_1 rh mm (sg, mu, io)).2.2 ∧ jj_fr (rr_S y ad) h h')) args s 0 0 (jj_A base)) 39 [(0, .ref y), (1, .int (nI mm)), (2, .int v2)] [] h 0 0 := by
    intro v2 hv
    have hob : ob_1 rh mm (sg, mu, io) = ob_e sg mu io mm := by
      unfold ob_1
      rw [hv]
    rw [hob]
    unfold ob_e
    refine jj_go C 4 rfl ?_
    refine jj_if C rfl (fun z => absurd z (by decide)) (fun _ => ?_)
    refine jj_go C 1 rfl ?_
    refine jj_getf C rfl fl_MO_55 hy rfl ?_
    refine jj_go C 1 rfl ?_
    refine jj_zald C (n := 6) (f := sg 14) (j := mm) rfl c14 rfl hm (by decide) ?_
    refine jj_if C rfl (fun z => ?_) (fun z => ?_)
    · rw [if_pos z]
      refine jj_go C 4 rfl ?_
      refine jj_callV C rfl ml_MO_164 wd_1029 hy rfl se_MO_MO_give (As := [.int 5, .int (nI mm), .int 0]) (rr_give hR) (rest := []) rfl rfl ⟨Nat.le_of_ble_eq_true rfl, Nat.le_of_ble_eq_true rfl⟩ (Nat.le_of_ble_eq_true rfl) (Nat.le_of_ble_eq_true rfl) (Nat.le_of_ble_eq_true rfl) ?_
      rintro q9 h1 ⟨rfl, hR1, hf1⟩
      have c14' := hR1.oc (k := 14) (by decide) (by decide) (by decide)
      rw [gv_sg_n (by decide)] at c14'
      refine jj_go C 1 rfl ?_
      refine jj_getf C rfl fl_MO_55 hR1.oy rfl ?_
      refine jj_go C 2 rfl ?_
      refine jj_zast C (n := 6) (f := sg 14) (j := mm) rfl c14' rfl hm (by decide) ?_
      have hR2 := hR1.set (k := 14) (by decide) (by decide) (by decide) (upd (sg 14) mm 1)
      rw [gv_sg_up (by decide)] at hR2
      have hf2 := hf1.up (a := ad 14) (x := .inl (aC (rr_ty 14), rr_len 14, .inl (upd (sg 14) mm 1))) (Or.inl (rr_S_k (by decide)))
      refine jj_go C 1 rfl ?_
      refine jj_if C rfl (fun z => absurd z (by decide)) (fun _ => ?_)
      exact jj_vret C rfl rfl (Nat.le_of_ble_eq_true rfl) (Nat.le_of_ble_eq_true rfl) ⟨rfl, hR2, hf2⟩
    · rw [if_neg z]
      refine jj_go C 1 rfl ?_
      refine jj_getf C rfl fl_MO_55 hy rfl ?_
      refine jj_go C 2 rfl ?_
      refine jj_zast C (n := 6) (f := (sg 14)) (j := mm) rfl (hR0.oc (k := 14) (by decide) (by decide) (by decide)) rfl (by omega) (by decide) ?_
      have hR1 := hR0.set (k := 14) (by decide) (by decide) (by decide) (upd (sg 14) mm 1)
      have hf1 := hf0.up (a := ad 14) (x := .inl (aC (rr_ty 14), rr_len 14, .inl (upd (sg 14) mm 1))) (Or.inl (rr_S_k (by decide)))
      generalize hh1 : (jj_up h (ad 14) (.inl (aC (rr_ty 14), rr_len 14, .inl (upd (sg 14) mm 1)))) = h1 at hR1 hf1
      refine jj_eq (h' := h1) rfl rfl rfl hh1 ?_
      refine jj_go C 1 rfl ?_
      refine jj_if C rfl (fun z => absurd z (by decide)) (fun _ => ?_)
      exact jj_vret C rfl rfl (Nat.le_of_ble_eq_true rfl) (Nat.le_of_ble_eq_true rfl) ⟨rfl, hR1, hf1⟩
  refine jj_go C 4 rfl ?_
  refine jj_top (show (12 : Int32) + nI mm = nI (12 + mm) from nI_add 12 mm) ?_
  refine jj_callV C rfl ml_MO_161 wd_1021 hy rfl se_MO_MO_beanWith (rr_beanWith (r := 12 + mm) hR (by omega)) (rest := []) rfl rfl ⟨Nat.le_of_ble_eq_true rfl, Nat.le_of_ble_eq_true rfl⟩ (Nat.le_of_ble_eq_true rfl) (Nat.le_of_ble_eq_true rfl) (Nat.le_of_ble_eq_true rfl) ?_
  rintro q9 h9 ⟨rfl, hh9⟩
  rw [hh9]
  refine jj_go C 2 rfl ?_
  cases hb : px_bw (sg 2) rh (rh (12 + mm)) 12 0 with
  | none =>
    exact jj_if C rfl (fun _ => err _ (by unfold ob_v; rw [hb])) (fun z => absurd (show px_oi none < 0 by decide) z)
  | some b =>
    have hlt := px_bw_lt 12 0 hb
    have hob0 : ob_v rh sg mm = if sg 4 (5 * b + w) = 0 then none else some (sg 3 (5 * b + w)) := by
      unfold ob_v
      rw [hb, ← cl7]
    refine jj_if C rfl (fun z => absurd z (nI_pos (show b < 2 ^ 31 by omega))) (fun _ => ?_)
    refine jj_go C 1 rfl ?_
    refine jj_getf C rfl fl_MO_24 hy rfl ?_
    refine jj_go C 2 rfl ?_
    refine jj_if C rfl (fun _ => ?_) (fun z => absurd (nI_pos' (show b < 2 ^ 31 by omega)) z)
    refine jj_go C 3 rfl ?_
    refine jj_getf C rfl fl_MO_33 hy rfl ?_
    refine jj_go C 1 rfl ?_
    refine jj_iald C (n := 6) (f := sg 7) (j := mm) rfl c7 rfl hm (by decide) ?_
    refine jj_top h7 ?_
    refine jj_go C 1 rfl ?_
    refine jj_zald C (n := 60) (f := sg 4) (j := 5 * b + w) rfl c4 nI_5 (by omega) (by decide) ?_
    refine jj_if C rfl (fun z => err _ (by rw [hob0, if_pos z])) (fun z => ?_)
    rw [if_neg z] at hob0
    have hob : ob_1 rh mm (sg, mu, io) = if sg 6 mm = 1 then ob_c (va_up sg 14 (upd (sg 14) mm 0)) mu io mm (sg 3 (5 * b + w)) else ob_g (va_up sg 14 (upd (sg 14) mm 0)) mu io mm (sg 3 (5 * b + w)) := by
      unfold ob_1
      rw [hob0]
    rw [hob]
    refine jj_go C 3 rfl ?_
    refine jj_if C rfl (fun _ => ?_) (fun z => absurd rfl z)
    refine jj_go C 1 rfl ?_
    refine jj_getf C rfl fl_MO_55 hy rfl ?_
    refine jj_go C 2 rfl ?_
    refine jj_zast C (n := 6) (f := (sg 14)) (j := mm) rfl (hR0.oc (k := 14) (by decide) (by decide) (by decide)) rfl (by omega) (by decide) ?_
    have hR1 := hR0.set (k := 14) (by decide) (by decide) (by decide) (upd (sg 14) mm 0)
    have hf1 := hf0.up (a := ad 14) (x := .inl (aC (rr_ty 14), rr_len 14, .inl (upd (sg 14) mm 0))) (Or.inl (rr_S_k (by decide)))
    generalize hh1 : (jj_up h (ad 14) (.inl (aC (rr_ty 14), rr_len 14, .inl (upd (sg 14) mm 0)))) = h1 at hR1 hf1
    refine jj_eq (h' := h1) rfl rfl rfl hh1 ?_
    refine jj_go C 1 rfl ?_
    refine jj_if C rfl (fun _ => ?_) (fun z => absurd rfl z)
    refine jj_go C 1 rfl ?_
    refine jj_getf C rfl fl_MO_21 hR1.oy rfl ?_
    refine jj_go C 4 rfl ?_
    refine jj_getf C rfl fl_MO_33 hR1.oy rfl ?_
    refine jj_go C 1 rfl ?_
    refine jj_iald C (n := 6) (f := sg 7) (j := mm) rfl (hR1.oc (k := 7) (by decide) (by decide) (by decide)) rfl hm (by decide) ?_
    refine jj_top h7 ?_
    refine jj_go C 1 rfl ?_
    refine jj_iald C (n := 60) (f := sg 3) (j := 5 * b + w) rfl (hR1.oc (k := 3) (by decide) (by decide) (by decide)) nI_5 (by omega) (by decide) ?_
    refine jj_go C 2 rfl ?_
    refine jj_getf C rfl fl_MO_30 hR1.oy rfl ?_
    refine jj_go C 1 rfl ?_
    refine jj_iald C (n := 6) (f := sg 6) (j := mm) rfl (hR1.oc (k := 6) (by decide) (by decide) (by decide)) rfl hm (by decide) ?_
    refine jj_go C 1 rfl ?_
    refine jj_if C rfl (fun z => ?_) (fun z => ?_)
    · rw [if_pos (show sg 6 mm = 1 from z)]
      refine jj_go C 3 rfl ?_
      refine jj_callV C rfl ml_MO_265 wd_1208 hR1.oy rfl se_MO_MO_count (rr_count (mm := mm) (v := sg 3 (5 * b + w)) hR1 hm rfl) (rest := []) rfl rfl ⟨Nat.le_of_ble_eq_true rfl, Nat.le_of_ble_eq_true rfl⟩ (Nat.le_of_ble_eq_true rfl) (Nat.le_of_ble_eq_true rfl) (Nat.le_of_ble_eq_true rfl) ?_
      rintro q9 h2 ⟨rfl, hR2, hf2⟩
      refine jj_go C 1 rfl ?_
      exact jj_vret C rfl rfl (Nat.le_of_ble_eq_true rfl) (Nat.le_of_ble_eq_true rfl) ⟨rfl, hR2, hf1.tr hf2⟩
    · rw [if_neg (show ¬ sg 6 mm = 1 from z)]
      refine jj_go C 3 rfl ?_
      refine jj_callV C rfl ml_MO_268 wd_1212 hR1.oy rfl se_MO_MO_gaugeOf (rr_gaugeOf (mm := mm) (v := sg 3 (5 * b + w)) hR1 hm) (rest := []) rfl rfl ⟨Nat.le_of_ble_eq_true rfl, Nat.le_of_ble_eq_true rfl⟩ (Nat.le_of_ble_eq_true rfl) (Nat.le_of_ble_eq_true rfl) (Nat.le_of_ble_eq_true rfl) ?_
      rintro q9 h2 ⟨rfl, hR2, hf2⟩
      exact jj_vret C rfl rfl (Nat.le_of_ble_eq_true rfl) (Nat.le_of_ble_eq_true rfl) ⟨rfl, hR2, hf1.tr hf2⟩
theorem rr_observe (hR : RR aC h y ad rh sg mu io) (hw : ∀ m, m < 6 → ¬ sg 6 m ≤ 0 → ∃ w, w < 5 ∧ sg 7 m = nI w) : jj_Ct l D aC base yn_MO_observe yb_MO_observe 3 (some .int) 4 0 0 [.ref y] h (fun q h' => q = some (.int ((ob_all rh 6 0 (sg, mu, io)).2.2 15 - io 15)) ∧ RR aC h' y ad rh (ob_all rh 6 0 (sg, mu, io)).1 (ob_all rh 6 0 (sg, mu, io)).2.1 (ob_all rh 6 0 (sg, mu, io)).2.2 ∧ jj_fr (rr_S y ad) h h') := by
  refine jj_start (tb := tb_MO_observe) (by decide) tg_MO_observe (Nat.le_of_ble_eq_true rfl) ?_
  intro p e s m args below meth cc C
  have loop : ∀ (k j : Nat) (v : Int32) (st : obS) (h1 : jjHp), v = nI j → j + k = 6 → (∀ i, i < 11 → st.1 i = sg i) → ob_all rh k j st = ob_all rh 6 0 (sg, mu, io) → RR aC h1 y ad rh st.1 st.2.1 st.2.2 → jj_fr (rr_S y ad) h h1 → jj_J p l e (jj_rm 4 0 0) s m args below meth cc D base 3 (MQ below (jj_Q D base (fun q h' => q = some (.int ((ob_all rh 6 0 (sg, mu, io)).2.2 15 - io 15)) ∧ RR aC h' y ad rh (ob_all rh 6 0 (sg, mu, io)).1 (ob_all rh 6 0 (sg, mu, io)).2.1 (ob_all rh 6 0 (sg, mu, io)).2.2 ∧ jj_fr (rr_S y ad) h h')) args s 0 0 (jj_A base)) 7 [(0, .ref y), (1, .int (io 15)), (2, .int v)] [] h1 0 0 := by
    intro k
    induction k with
    | zero =>
      intro j v st h1 hv hk hst hG hR1 hf1
      have hj : j = 6 := by omega
      subst hj
      have hG : st = ob_all rh 6 0 (sg, mu, io) := hG
      refine jj_go C 2 rfl ?_
      refine jj_if C rfl (fun _ => ?_) (fun z => absurd (by rw [hv]; decide) z)
      refine jj_go C 1 rfl ?_
      refine jj_getf C rfl fl_MO_151 hR1.oy rfl ?_
      refine jj_go C 2 rfl ?_
      rw [← hG]
      exact jj_iret C rfl rfl rfl (Nat.le_of_ble_eq_true rfl) (Nat.le_of_ble_eq_true rfl) ⟨rfl, hR1, hf1⟩
    | succ k ih =>
      intro j v st h1 hv hk hst hG hR1 hf1
      have hG : ob_all rh k (j + 1) (if st.1 6 j ≤ 0 then st else ob_1 rh j st) = ob_all rh 6 0 (sg, mu, io) := hG
      have hlt : j < 6 := by omega
      refine jj_go C 2 rfl ?_
      refine jj_if C rfl (fun z => absurd z (by rw [hv]; exact nI_ge (b := 6) hlt (by decide))) (fun _ => ?_)
      refine jj_go C 1 rfl ?_
      refine jj_getf C rfl fl_MO_30 hR1.oy rfl ?_
      refine jj_go C 1 rfl ?_
      refine jj_iald C (n := 6) (f := st.1 6) (j := j) rfl (hR1.oc (k := 6) (by decide) (by decide) (by decide)) hv hlt (by decide) ?_
      refine jj_if C rfl (fun z => ?_) (fun z => ?_)
      · rw [if_pos z] at hG
        refine jj_go C 2 rfl ?_
        exact ih (j + 1) (v + 1) st h1 (by rw [hv, nI_1]) (by omega) hst hG hR1 hf1
      · rw [if_neg z] at hG
        obtain ⟨w, hw1, hw2⟩ := hw j hlt (by rw [← hst 6 (by decide)]; exact z)
        refine jj_go C 2 rfl ?_
        subst hv
        refine jj_callV C rfl ml_MO_271 wd_1204 hR1.oy rfl se_MO_MO_observe1 (rr_observe1 (mm := j) (w := w) hR1 hlt hw1 (by rw [hst 7 (by decide)]; exact hw2)) (rest := []) rfl rfl ⟨Nat.le_of_ble_eq_true rfl, Nat.le_of_ble_eq_true rfl⟩ (Nat.le_of_ble_eq_true rfl) (Nat.le_of_ble_eq_true rfl) (Nat.le_of_ble_eq_true rfl) ?_
        rintro q9 h2 ⟨rfl, hR2, hf2⟩
        refine jj_go C 2 rfl ?_
        exact ih (j + 1) _ (ob_1 rh j st) h2 (nI_1 j) (by omega) (fun i hi => (ob_1_n hi).trans (hst i hi)) hG hR2 (hf1.tr hf2)
  refine jj_go C 1 rfl ?_
  refine jj_getf C rfl fl_MO_151 hR.oy rfl ?_
  refine jj_go C 3 rfl ?_
  exact loop 6 0 0 (sg, mu, io) h nI_0.symm (by omega) (fun _ _ => rfl) rfl hR jj_fr.rf
end MO2
