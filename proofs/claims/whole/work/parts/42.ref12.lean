/-! The reference: counter, gauge, count, gaugeOf -/
def wt_P (aC : Nat → ClassId) (h : jjHp) (y : Nat) (ad : Nat → Nat) (rh : Nat → List Nat) (sg : Nat → Nat → Int32) (mu : Nat → Int64) (io : Nat → Int32) (k x att a b : Int32) (q : Option Value) (h' : jjHp) : Prop := (px_at 12 (px_b (sg 2)) x = false ∧ q = some (.int (-2)) ∧ h' = h) ∨ (∃ j, x = nI j ∧ j < 12 ∧ ¬ sg 2 j = 0 ∧ ((px_mf (sg 6) 6 0 = none ∧ q = some (.int (-4)) ∧ h' = h) ∨ ∃ m, px_mf (sg 6) 6 0 = some m ∧ m < 6 ∧ q = some (.int (nI m)) ∧ RR aC h' y ad (jr_up rh (12 + m) (rh j)) (wt_sg sg m k att a b) (wt_mu mu m k a) io ∧ jj_fr (rr_S y ad) h h'))
theorem updL_same {f : Nat → Int64} {k : Nat} : vp_updL f k (f k) = f := by
  funext j
  unfold vp_updL
  split
  next q => rw [q]
  next => rfl
theorem updL_up {f : Nat → Int64} {k : Nat} {a b : Int64} : vp_updL (vp_updL f k a) k b = vp_updL f k b := by
  funext j
  unfold vp_updL
  split
  · rfl
  · rfl
theorem updL_at {f : Nat → Int64} {k : Nat} {a : Int64} : vp_updL f k a k = a := if_pos rfl
theorem upd_up {f : Nat → Int32} {k : Nat} {a b : Int32} : upd (upd f k a) k b = upd f k b := by
  funext j
  unfold upd
  split
  · rfl
  · rfl
theorem upd_at {f : Nat → Int32} {k : Nat} {a : Int32} : upd f k a k = a := if_pos rfl
theorem gv_sg_n {sg : Nat → Nat → Int32} {io : Nat → Int32} {k a v : Int32} {i : Nat} (h : i ≠ 18) : gv_sg sg io k a v i = sg i := by
  unfold gv_sg
  split
  · exact if_neg h
  · rfl
theorem gv_sg_up {sg : Nat → Nat → Int32} {io : Nat → Int32} {k a v : Int32} {i : Nat} {f : Nat → Int32} (h : i ≠ 18) : va_up (gv_sg sg io k a v) i f = gv_sg (va_up sg i f) io k a v := by
  unfold gv_sg
  split
  · rw [va_up_comm (Ne.symm h)]
    congr 2
    exact (if_neg (Ne.symm h)).symm
  · rfl
/-- a counter looks: does it tell, its mark, is it ready -/
def cn_f (M : Int64) (R S T lo st v : Int32) : Bool × Int64 × Int32 :=
  if (if v.toInt64 < (if ¬ S = 0 ∧ v < T then lo.toInt64 else M) then 1 else (if ¬ S = 0 ∧ v < T then 1 else R)) = 0 ∨ v.toInt64 < (if ¬ S = 0 ∧ v < T then lo.toInt64 else M) then (false, (if ¬ S = 0 ∧ v < T then lo.toInt64 else M), (if v.toInt64 < (if ¬ S = 0 ∧ v < T then lo.toInt64 else M) then 1 else (if ¬ S = 0 ∧ v < T then 1 else R)))
  else if st.toInt64 = 0 then (true, (if ¬ S = 0 ∧ v < T then lo.toInt64 else M), 0)
  else (true, lo.toInt64 + st.toInt64 * ((v.toInt64 - lo.toInt64) / st.toInt64 + 1), (if v.toInt64 < (if ¬ S = 0 ∧ v < T then lo.toInt64 else M) then 1 else (if ¬ S = 0 ∧ v < T then 1 else R)))
def cn_sg (sg : Nat → Nat → Int32) (m : Nat) (v R : Int32) : Nat → Nat → Int32 := va_up (va_up (va_up sg 11 (upd (sg 11) m R)) 12 (upd (sg 12) m 1)) 13 (upd (sg 13) m v)
theorem cn_sg_up {sg : Nat → Nat → Int32} {m : Nat} {v R R' : Int32} : va_up (cn_sg sg m v R) 11 (upd (cn_sg sg m v R 11) m R') = cn_sg sg m v R' := by
  have h11 : cn_sg sg m v R 11 = upd (sg 11) m R := rfl
  rw [h11, upd_up]
  unfold cn_sg
  rw [va_up_comm (j := 13) (k := 11) (by decide), va_up_comm (j := 12) (k := 11) (by decide), bx_uu]
section MN
variable {l : Launch} {D : va_G} {aC : Nat → ClassId} {base : Nat} {h : jjHp} {y : Nat} {ad : Nat → Nat} {rh : Nat → List Nat} {sg : Nat → Nat → Int32} {mu : Nat → Int64} {io : Nat → Int32}
theorem rr_counter_f {x att a b : Int32} (hb : px_at 5 (fun _ => true) att = false ∨ b < 0) : jj_Ct l D aC base yn_MO_counter yb_MO_counter 5 (some .int) 3 0 0 [.ref y, .int x, .int att, .int a, .int b] h (fun q h' => q = some (.int (-1)) ∧ h' = h) := by
  refine jj_start (tb := tb_MO_counter) (by decide) tg_MO_counter (Nat.le_of_ble_eq_true rfl) ?_
  intro p e s m args below meth cc C
  have no : jj_J p l e (jj_rm 3 0 0) s m args below meth cc D base 5 (MQ below (jj_Q D base (fun q h' => q = some (.int (-1)) ∧ h' = h)) args s 0 0 (jj_A base)) 14 [(0, .ref y), (1, .int x), (2, .int att), (3, .int a), (4, .int b)] [] h 0 0 := by
    refine jj_go C 2 rfl ?_
    exact jj_iret C rfl rfl rfl (Nat.le_of_ble_eq_true rfl) (Nat.le_of_ble_eq_true rfl) ⟨rfl, rfl⟩
  refine jj_go C 1 rfl ?_
  refine jj_if C rfl (fun z => no) (fun z1 => ?_)
  obtain ⟨i, hi, hatt⟩ := nI_of z1
  refine jj_go C 2 rfl ?_
  refine jj_if C rfl (fun z => no) (fun z2 => ?_)
  have hi5 : i < 5 := by
    have : ¬ 4 < i := fun q => z2 (by rw [hatt]; exact (nI_ltI (a := 4) (b := i) (by decide) hi).mpr q)
    omega
  refine jj_go C 1 rfl ?_
  refine jj_if C rfl (fun z => ?_) (fun z => no)
  rcases hb with q | q
  · rw [hatt, px_at_n hi5 (by decide)] at q
    cases q
  · exact absurd q (Int32.not_lt.mpr z)
theorem rr_counter_t {x a b : Int32} {i : Nat} (hR : RR aC h y ad rh sg mu io) (hi : i < 5) (hb : ¬ b < 0) : jj_Ct l D aC base yn_MO_counter yb_MO_counter 5 (some .int) 3 0 0 [.ref y, .int x, .int (nI i), .int a, .int b] h (fun q h' => wt_P aC h y ad rh sg mu io 1 x (nI i) a b q h') := by
  refine jj_start (tb := tb_MO_counter) (by decide) tg_MO_counter (Nat.le_of_ble_eq_true rfl) ?_
  intro p e s m args below meth cc C
  refine jj_go C 1 rfl ?_
  refine jj_if C rfl (fun z => absurd z (nI_pos (by omega))) (fun _ => ?_)
  refine jj_go C 2 rfl ?_
  refine jj_if C rfl (fun z => ?_) (fun _ => ?_)
  · have := (nI_ltI (a := 4) (b := i) (by decide) (by omega)).mp z
    omega
  refine jj_go C 1 rfl ?_
  refine jj_if C rfl (fun _ => ?_) (fun z => absurd (Int32.not_lt.mp hb) z)
  refine jj_go C 6 rfl ?_
  refine jj_callV C rfl ml_MO_256 wd_1184 hR.oy rfl se_MO_MO_watch (As := [.int 1, .int x, .int (nI i), .int a, .int b]) (rr_watch hR) (rest := []) rfl rfl ⟨Nat.le_of_ble_eq_true rfl, Nat.le_of_ble_eq_true rfl⟩ (Nat.le_of_ble_eq_true rfl) (Nat.le_of_ble_eq_true rfl) (Nat.le_of_ble_eq_true rfl) ?_
  rintro q9 h9 hq
  have hq' : wt_P aC h y ad rh sg mu io 1 x (nI i) a b q9 h9 := hq
  rcases hq with ⟨-, rfl, -⟩ | ⟨_, -, -, -, ⟨-, rfl, -⟩ | ⟨_, -, -, rfl, -⟩⟩
  · exact jj_iret C rfl rfl rfl (Nat.le_of_ble_eq_true rfl) (Nat.le_of_ble_eq_true rfl) hq'
  · exact jj_iret C rfl rfl rfl (Nat.le_of_ble_eq_true rfl) (Nat.le_of_ble_eq_true rfl) hq'
  · exact jj_iret C rfl rfl rfl (Nat.le_of_ble_eq_true rfl) (Nat.le_of_ble_eq_true rfl) hq'
theorem rr_gauge_f {x att a b : Int32} (hb : px_at 5 (fun _ => true) att = false ∨ ¬ a < b) : jj_Ct l D aC base yn_MO_gauge yb_MO_gauge 5 (some .int) 3 0 0 [.ref y, .int x, .int att, .int a, .int b] h (fun q h' => q = some (.int (-1)) ∧ h' = h) := by
  refine jj_start (tb := tb_MO_gauge) (by decide) tg_MO_gauge (Nat.le_of_ble_eq_true rfl) ?_
  intro p e s m args below meth cc C
  have no : jj_J p l e (jj_rm 3 0 0) s m args below meth cc D base 5 (MQ below (jj_Q D base (fun q h' => q = some (.int (-1)) ∧ h' = h)) args s 0 0 (jj_A base)) 15 [(0, .ref y), (1, .int x), (2, .int att), (3, .int a), (4, .int b)] [] h 0 0 := by
    refine jj_go C 2 rfl ?_
    exact jj_iret C rfl rfl rfl (Nat.le_of_ble_eq_true rfl) (Nat.le_of_ble_eq_true rfl) ⟨rfl, rfl⟩
  refine jj_go C 1 rfl ?_
  refine jj_if C rfl (fun z => no) (fun z1 => ?_)
  obtain ⟨i, hi, hatt⟩ := nI_of z1
  refine jj_go C 2 rfl ?_
  refine jj_if C rfl (fun z => no) (fun z2 => ?_)
  have hi5 : i < 5 := by
    have : ¬ 4 < i := fun q => z2 (by rw [hatt]; exact (nI_ltI (a := 4) (b := i) (by decide) hi).mpr q)
    omega
  refine jj_go C 2 rfl ?_
  refine jj_if C rfl (fun z => ?_) (fun z => no)
  rcases hb with q | q
  · rw [hatt, px_at_n hi5 (by decide)] at q
    cases q
  · exact absurd z q
theorem rr_gauge_t {x a b : Int32} {i : Nat} (hR : RR aC h y ad rh sg mu io) (hi : i < 5) (hb : a < b) : jj_Ct l D aC base yn_MO_gauge yb_MO_gauge 5 (some .int) 3 0 0 [.ref y, .int x, .int (nI i), .int a, .int b] h (fun q h' => wt_P aC h y ad rh sg mu io 2 x (nI i) a b q h') := by
  refine jj_start (tb := tb_MO_gauge) (by decide) tg_MO_gauge (Nat.le_of_ble_eq_true rfl) ?_
  intro p e s m args below meth cc C
  refine jj_go C 1 rfl ?_
  refine jj_if C rfl (fun z => absurd z (nI_pos (by omega))) (fun _ => ?_)
  refine jj_go C 2 rfl ?_
  refine jj_if C rfl (fun z => ?_) (fun _ => ?_)
  · have := (nI_ltI (a := 4) (b := i) (by decide) (by omega)).mp z
    omega
  refine jj_go C 2 rfl ?_
  refine jj_if C rfl (fun _ => ?_) (fun z => absurd hb z)
  refine jj_go C 6 rfl ?_
  refine jj_callV C rfl ml_MO_256 wd_1184 hR.oy rfl se_MO_MO_watch (As := [.int 2, .int x, .int (nI i), .int a, .int b]) (rr_watch hR) (rest := []) rfl rfl ⟨Nat.le_of_ble_eq_true rfl, Nat.le_of_ble_eq_true rfl⟩ (Nat.le_of_ble_eq_true rfl) (Nat.le_of_ble_eq_true rfl) (Nat.le_of_ble_eq_true rfl) ?_
  rintro q9 h9 hq
  have hq' : wt_P aC h y ad rh sg mu io 2 x (nI i) a b q9 h9 := hq
  rcases hq with ⟨-, rfl, -⟩ | ⟨_, -, -, -, ⟨-, rfl, -⟩ | ⟨_, -, -, rfl, -⟩⟩
  · exact jj_iret C rfl rfl rfl (Nat.le_of_ble_eq_true rfl) (Nat.le_of_ble_eq_true rfl) hq'
  · exact jj_iret C rfl rfl rfl (Nat.le_of_ble_eq_true rfl) (Nat.le_of_ble_eq_true rfl) hq'
  · exact jj_iret C rfl rfl rfl (Nat.le_of_ble_eq_true rfl) (Nat.le_of_ble_eq_true rfl) hq'
set_option maxHeartbeats 1000000 in
theorem rr_count {mm : Nat} {v : Int32} {N : Bool} {M9 : Int64} {R9 : Int32} (hR : RR aC h y ad rh sg mu io) (hm : mm < 6) (hF : cn_f (mu mm) (sg 11 mm) (sg 12 mm) (sg 13 mm) (sg 8 mm) (sg 9 mm) v = (N, M9, R9)) : jj_Ct l D aC base yn_MO_count yb_MO_count 5 none 1 0 0 [.ref y, .int (nI mm), .int v] h (fun q h' => q = none ∧ RR aC h' y ad rh (if N = true then gv_sg (cn_sg sg mm v R9) io 2 (nI mm) v else cn_sg sg mm v R9) (vp_updL mu mm M9) (if N = true then gv_io io 2 else io) ∧ jj_fr (rr_S y ad) h h') := by
  refine jj_start (tb := tb_MO_count) (by decide) tg_MO_count (Nat.le_of_ble_eq_true rfl) ?_
  intro p e s m args below meth cc C
  have hf0 : jj_fr (rr_S y ad) h h := jj_fr.rf
  have hR0 := hR
  have hy := hR.oy
  unfold cn_f at hF
  generalize hM1 : (if ¬ sg 12 mm = 0 ∧ v < sg 13 mm then (sg 8 mm).toInt64 else mu mm) = M1 at hF
  generalize hR1e : (if ¬ sg 12 mm = 0 ∧ v < sg 13 mm then 1 else sg 11 mm) = R1 at hF
  generalize hR2e : (if v.toInt64 < M1 then 1 else R1) = R2 at hF
  -- from 72 on
  have late : ∀ h5, RR aC h5 y ad rh (cn_sg sg mm v R2) (vp_updL mu mm M1) io → jj_fr (rr_S y ad) h h5 → jj_J p l e (jj_rm 1 0 0) s m args below meth cc D base 5 (MQ below (jj_Q D base (fun q h' => q = none ∧ RR aC h' y ad rh (if N = true then gv_sg (cn_sg sg mm v R9) io 2 (nI mm) v else cn_sg sg mm v R9) (vp_updL mu mm M9) (if N = true then gv_io io 2 else io) ∧ jj_fr (rr_S y ad) h h')) args s 0 0 (jj_A base)) 72 [(0, .ref y), (1, .int (nI mm)), (2, .int v)] [] h5 0 0 := by
    intro h5 hR5 hf5
    have stop : (R2 = 0 ∨ v.toInt64 < M1) → jj_J p l e (jj_rm 1 0 0) s m args below meth cc D base 5 (MQ below (jj_Q D base (fun q h' => q = none ∧ RR aC h' y ad rh (if N = true then gv_sg (cn_sg sg mm v R9) io 2 (nI mm) v else cn_sg sg mm v R9) (vp_updL mu mm M9) (if N = true then gv_io io 2 else io) ∧ jj_fr (rr_S y ad) h h')) args s 0 0 (jj_A base)) 93 [(0, .ref y), (1, .int (nI mm)), (2, .int v)] [] h5 0 0 := by
      intro hs
      rw [if_pos hs] at hF
      cases hF
      exact jj_vret C rfl rfl (Nat.le_of_ble_eq_true rfl) (Nat.le_of_ble_eq_true rfl) ⟨rfl, hR5, hf5⟩
    refine jj_go C 1 rfl ?_
    refine jj_getf C rfl fl_MO_46 hR5.oy rfl ?_
    refine jj_go C 1 rfl ?_
    refine jj_zald C (n := 6) (f := upd (sg 11) mm R2) (j := mm) rfl (hR5.oc (k := 11) (by decide) (by decide) (by decide)) rfl (by omega) (by decide) ?_
    refine jj_top upd_at ?_
    refine jj_if C rfl (fun z => stop (Or.inl z)) (fun z1 => ?_)
    refine jj_go C 3 rfl ?_
    refine jj_getf C rfl fl_MO_42 hR5.oy rfl ?_
    refine jj_go C 1 rfl ?_
    refine jj_lald C (n := 6) (f := vp_updL mu mm M1) (j := mm) rfl hR5.om rfl hm (by decide) ?_
    rw [updL_at]
    refine jj_go C 1 rfl ?_
    refine jj_if C rfl (fun z => ?_) (fun z => stop (Or.inr (Int64.not_le.mp (fun q => z ((lg_cmp_ge _ _).mpr q)))))
    have z2 : ¬ v.toInt64 < M1 := Int64.not_lt.mpr ((lg_cmp_ge _ _).mp z)
    rw [if_neg (fun q => by rcases q with q | q; exact z1 q; exact z2 q)] at hF
    refine jj_go C 4 rfl ?_
    refine jj_callV C rfl ml_MO_164 wd_1029 hR5.oy rfl se_MO_MO_give (As := [.int 2, .int (nI mm), .int v]) (rr_give hR5) (rest := []) rfl rfl ⟨Nat.le_of_ble_eq_true rfl, Nat.le_of_ble_eq_true rfl⟩ (Nat.le_of_ble_eq_true rfl) (Nat.le_of_ble_eq_true rfl) (Nat.le_of_ble_eq_true rfl) ?_
    rintro q9 h6 ⟨rfl, hR6, hf6⟩
    have hf6 := hf5.tr hf6
    have c9 := hR6.oc (k := 9) (by decide) (by decide) (by decide)
    rw [gv_sg_n (by decide)] at c9
    have c8 := hR6.oc (k := 8) (by decide) (by decide) (by decide)
    rw [gv_sg_n (by decide)] at c8
    refine jj_go C 1 rfl ?_
    refine jj_getf C rfl fl_MO_39 hR6.oy rfl ?_
    refine jj_go C 1 rfl ?_
    refine jj_iald C (n := 6) (f := sg 9) (j := mm) rfl c9 rfl hm (by decide) ?_
    refine jj_go C 5 rfl ?_
    refine jj_if C rfl (fun z3 => ?_) (fun z3 => ?_)
    · have z3 : (sg 9 mm).toInt64 = 0 := (lg_cmp_eq _ _).mp z3
      rw [if_pos z3] at hF
      cases hF
      have c11 := hR6.oc (k := 11) (by decide) (by decide) (by decide)
      rw [gv_sg_n (by decide)] at c11
      refine jj_go C 1 rfl ?_
      refine jj_getf C rfl fl_MO_46 hR6.oy rfl ?_
      refine jj_go C 2 rfl ?_
      refine jj_zast C (n := 6) (f := cn_sg sg mm v R2 11) (j := mm) rfl c11 rfl hm (by decide) ?_
      have hR7 := hR6.set (k := 11) (by decide) (by decide) (by decide) (upd (cn_sg sg mm v R2 11) mm 0)
      have hf7 := hf6.up (a := ad 11) (x := .inl (aC (rr_ty 11), rr_len 11, .inl (upd (cn_sg sg mm v R2 11) mm 0))) (Or.inl (rr_S_k (by decide)))
      rw [gv_sg_up (by decide), cn_sg_up] at hR7
      refine jj_go C 1 rfl ?_
      exact jj_vret C rfl rfl (Nat.le_of_ble_eq_true rfl) (Nat.le_of_ble_eq_true rfl) ⟨rfl, hR7, hf7⟩
    · have z3 : ¬ (sg 9 mm).toInt64 = 0 := fun q => z3 ((lg_cmp_eq _ _).mpr q)
      rw [if_neg z3] at hF
      cases hF
      refine jj_go C 1 rfl ?_
      refine jj_getf C rfl fl_MO_42 hR6.oy rfl ?_
      refine jj_go C 2 rfl ?_
      refine jj_getf C rfl fl_MO_36 hR6.oy rfl ?_
      refine jj_go C 1 rfl ?_
      refine jj_iald C (n := 6) (f := sg 8) (j := mm) rfl c8 rfl hm (by decide) ?_
      refine jj_go C 5 rfl ?_
      refine jj_getf C rfl fl_MO_36 hR6.oy rfl ?_
      refine jj_go C 1 rfl ?_
      refine jj_iald C (n := 6) (f := sg 8) (j := mm) rfl c8 rfl hm (by decide) ?_
      refine jj_go C 3 rfl ?_
      refine jj_ldiv C rfl z3 ?_
      refine jj_go C 4 rfl ?_
      refine jj_last C (n := 6) (f := (vp_updL mu mm M1)) (j := mm) rfl hR6.om rfl (by omega) (by decide) ?_
      have hR7 := hR6.mark (vp_updL (vp_updL mu mm M1) mm ((sg 8 mm).toInt64 + (sg 9 mm).toInt64 * ((v.toInt64 - (sg 8 mm).toInt64) / (sg 9 mm).toInt64 + 1)))
      have hf7 := hf6.up (a := ad 10) (x := .inl (aC 3, 6, .inr (.inl (vp_updL (vp_updL mu mm M1) mm ((sg 8 mm).toInt64 + (sg 9 mm).toInt64 * ((v.toInt64 - (sg 8 mm).toInt64) / (sg 9 mm).toInt64 + 1)))))) (Or.inl (rr_S_k (by decide)))
      generalize hh7 : (jj_up h6 (ad 10) (.inl (aC 3, 6, .inr (.inl (vp_updL (vp_updL mu mm M1) mm ((sg 8 mm).toInt64 + (sg 9 mm).toInt64 * ((v.toInt64 - (sg 8 mm).toInt64) / (sg 9 mm).toInt64 + 1))))))) = h7 at hR7 hf7
      refine jj_eq (h' := h7) rfl rfl rfl (by first | exact hh7 | rfl) ?_
      rw [updL_up] at hR7
      exact jj_vret C rfl rfl (Nat.le_of_ble_eq_true rfl) (Nat.le_of_ble_eq_true rfl) ⟨rfl, hR7, hf7⟩
  -- from 39 on
  have mid : ∀ h2, RR aC h2 y ad rh (va_up sg 11 (upd (sg 11) mm R1)) (vp_updL mu mm M1) io → jj_fr (rr_S y ad) h h2 → jj_J p l e (jj_rm 1 0 0) s m args below meth cc D base 5 (MQ below (jj_Q D base (fun q h' => q = none ∧ RR aC h' y ad rh (if N = true then gv_sg (cn_sg sg mm v R9) io 2 (nI mm) v else cn_sg sg mm v R9) (vp_updL mu mm M9) (if N = true then gv_io io 2 else io) ∧ jj_fr (rr_S y ad) h h')) args s 0 0 (jj_A base)) 39 [(0, .ref y), (1, .int (nI mm)), (2, .int v)] [] h2 0 0 := by
    intro h2 hR2 hf2
    refine jj_go C 1 rfl ?_
    refine jj_getf C rfl fl_MO_49 hR2.oy rfl ?_
    refine jj_go C 2 rfl ?_
    refine jj_zast C (n := 6) (f := (sg 12)) (j := mm) rfl (hR2.oc (k := 12) (by decide) (by decide) (by decide)) rfl (by omega) (by decide) ?_
    have hR3 := hR2.set (k := 12) (by decide) (by decide) (by decide) (upd (sg 12) mm 1)
    have hf3 := hf2.up (a := ad 12) (x := .inl (aC (rr_ty 12), rr_len 12, .inl (upd (sg 12) mm 1))) (Or.inl (rr_S_k (by decide)))
    generalize hh3 : (jj_up h2 (ad 12) (.inl (aC (rr_ty 12), rr_len 12, .inl (upd (sg 12) mm 1)))) = h3 at hR3 hf3
    refine jj_eq (h' := h3) rfl rfl rfl hh3 ?_
    refine jj_go C 1 rfl ?_
    refine jj_getf C rfl fl_MO_52 hR3.oy rfl ?_
    refine jj_go C 2 rfl ?_
    refine jj_iast C (n := 6) (f := (sg 13)) (j := mm) rfl (hR3.oc (k := 13) (by decide) (by decide) (by decide)) rfl (by omega) (by decide) ?_
    have hR4 := hR3.set (k := 13) (by decide) (by decide) (by decide) (upd (sg 13) mm v)
    have hf4 := hf3.up (a := ad 13) (x := .inl (aC (rr_ty 13), rr_len 13, .inl (upd (sg 13) mm v))) (Or.inl (rr_S_k (by decide)))
    generalize hh4 : (jj_up h3 (ad 13) (.inl (aC (rr_ty 13), rr_len 13, .inl (upd (sg 13) mm v)))) = h4 at hR4 hf4
    refine jj_eq (h' := h4) rfl rfl rfl hh4 ?_
    have hR4 : RR aC h4 y ad rh (cn_sg sg mm v R1) (vp_updL mu mm M1) io := hR4
    refine jj_go C 3 rfl ?_
    refine jj_getf C rfl fl_MO_42 hR4.oy rfl ?_
    refine jj_go C 1 rfl ?_
    refine jj_lald C (n := 6) (f := vp_updL mu mm M1) (j := mm) rfl hR4.om rfl hm (by decide) ?_
    rw [updL_at]
    refine jj_go C 1 rfl ?_
    refine jj_if C rfl (fun z => ?_) (fun z => ?_)
    · have z2 : ¬ v.toInt64 < M1 := Int64.not_lt.mpr ((lg_cmp_ge _ _).mp z)
      rw [if_neg z2] at hR2e
      subst hR2e
      exact late h4 hR4 hf4
    · have z2 : v.toInt64 < M1 := Int64.not_le.mp (fun q => z ((lg_cmp_ge _ _).mpr q))
      rw [if_pos z2] at hR2e
      subst hR2e
      refine jj_go C 1 rfl ?_
      refine jj_getf C rfl fl_MO_46 hR4.oy rfl ?_
      refine jj_go C 2 rfl ?_
      refine jj_zast C (n := 6) (f := (cn_sg sg mm v R1 11)) (j := mm) rfl (hR4.oc (k := 11) (by decide) (by decide) (by decide)) rfl (by omega) (by decide) ?_
      have hR5 := hR4.set (k := 11) (by decide) (by decide) (by decide) (upd (cn_sg sg mm v R1 11) mm 1)
      have hf5 := hf4.up (a := ad 11) (x := .inl (aC (rr_ty 11), rr_len 11, .inl (upd (cn_sg sg mm v R1 11) mm 1))) (Or.inl (rr_S_k (by decide)))
      generalize hh5 : (jj_up h4 (ad 11) (.inl (aC (rr_ty 11), rr_len 11, .inl (upd (cn_sg sg mm v R1 11) mm 1)))) = h5 at hR5 hf5
      refine jj_eq (h' := h5) rfl rfl rfl hh5 ?_
      rw [cn_sg_up] at hR5
      exact late h5 hR5 hf5
  have keep : ¬ (¬ sg 12 mm = 0 ∧ v < sg 13 mm) → jj_J p l e (jj_rm 1 0 0) s m args below meth cc D base 5 (MQ below (jj_Q D base (fun q h' => q = none ∧ RR aC h' y ad rh (if N = true then gv_sg (cn_sg sg mm v R9) io 2 (nI mm) v else cn_sg sg mm v R9) (vp_updL mu mm M9) (if N = true then gv_io io 2 else io) ∧ jj_fr (rr_S y ad) h h')) args s 0 0 (jj_A base)) 39 [(0, .ref y), (1, .int (nI mm)), (2, .int v)] [] h 0 0 := by
    intro hn
    rw [if_neg hn] at hM1 hR1e
    refine mid h ?_ hf0
    rw [← hM1, ← hR1e, updL_same, upd_same, rr_up_same]
    exact hR
  refine jj_go C 1 rfl ?_
  refine jj_getf C rfl fl_MO_49 hy rfl ?_
  refine jj_go C 1 rfl ?_
  refine jj_zald C (n := 6) (f := sg 12) (j := mm) rfl (hR.oc (k := 12) (by decide) (by decide) (by decide)) rfl hm (by decide) ?_
  refine jj_if C rfl (fun z => keep (fun q => q.1 z)) (fun z1 => ?_)
  refine jj_go C 2 rfl ?_
  refine jj_getf C rfl fl_MO_52 hy rfl ?_
  refine jj_go C 1 rfl ?_
  refine jj_iald C (n := 6) (f := sg 13) (j := mm) rfl (hR.oc (k := 13) (by decide) (by decide) (by decide)) rfl hm (by decide) ?_
  refine jj_if C rfl (fun z => keep (fun q => absurd q.2 (Int32.not_lt.mpr z))) (fun z => ?_)
  have z2 : v < sg 13 mm := Int32.not_le.mp z
  rw [if_pos ⟨z1, z2⟩] at hM1 hR1e
  refine jj_go C 1 rfl ?_
  refine jj_getf C rfl fl_MO_42 hy rfl ?_
  refine jj_go C 2 rfl ?_
  refine jj_getf C rfl fl_MO_36 hy rfl ?_
  refine jj_go C 1 rfl ?_
  refine jj_iald C (n := 6) (f := sg 8) (j := mm) rfl (hR.oc (k := 8) (by decide) (by decide) (by decide)) rfl hm (by decide) ?_
  refine jj_go C 1 rfl ?_
  refine jj_last C (n := 6) (f := mu) (j := mm) rfl hR0.om rfl (by omega) (by decide) ?_
  have hR1 := hR0.mark (vp_updL mu mm (sg 8 mm).toInt64)
  have hf1 := hf0.up (a := ad 10) (x := .inl (aC 3, 6, .inr (.inl (vp_updL mu mm (sg 8 mm).toInt64)))) (Or.inl (rr_S_k (by decide)))
  generalize hh1 : (jj_up h (ad 10) (.inl (aC 3, 6, .inr (.inl (vp_updL mu mm (sg 8 mm).toInt64))))) = h1 at hR1 hf1
  refine jj_eq (h' := h1) rfl rfl rfl (by first | exact hh1 | rfl) ?_
  refine jj_go C 1 rfl ?_
  refine jj_getf C rfl fl_MO_46 hR1.oy rfl ?_
  refine jj_go C 2 rfl ?_
  refine jj_zast C (n := 6) (f := (sg 11)) (j := mm) rfl (hR1.oc (k := 11) (by decide) (by decide) (by decide)) rfl (by omega) (by decide) ?_
  have hR2 := hR1.set (k := 11) (by decide) (by decide) (by decide) (upd (sg 11) mm 1)
  have hf2 := hf1.up (a := ad 11) (x := .inl (aC (rr_ty 11), rr_len 11, .inl (upd (sg 11) mm 1))) (Or.inl (rr_S_k (by decide)))
  generalize hh2 : (jj_up h1 (ad 11) (.inl (aC (rr_ty 11), rr_len 11, .inl (upd (sg 11) mm 1)))) = h2 at hR2 hf2
  refine jj_eq (h' := h2) rfl rfl rfl hh2 ?_
  refine mid h2 ?_ hf2
  rw [← hM1, ← hR1e]
  exact hR2
end MN
