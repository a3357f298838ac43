/-! The reference: unitValue, value, comparison -/
/-- where it reads, what failed -/
def iu (io : Nat → Int32) (p : Nat) (b : Bool) : Nat → Int32 := upd (upd io 28 (nI p)) 27 (jb_I b)
def rr_E (sg : Nat → Nat → Int32) (b : Nat) : Nat → Option Int32 := fun i => if sg 4 (5 * b + i) = 0 then none else some (sg 3 (5 * b + i))
theorem jb_fit {b : Bool} : fits .boolean (.int (jb_I b)) = true := by cases b <;> rfl
theorem jb_nar' {b : Bool} : vp_nar .boolean (jb_I b) = jb_I b := by cases b <;> rfl
theorem nI_num {v : Int32} {c : Nat} : (10 * v + nI c) - 48 = v * 10 + (nI c - 48) := by
  rw [Int32.sub_eq_add_neg, Int32.sub_eq_add_neg, Int32.mul_comm 10 v, Int32.add_assoc]
theorem qv_f_m {E : Nat → Option Int32} {z : Int32 → Int32} : ∀ (o : List (Nat × List Nat)) (s : Int32) (p : Bool) (x : Int32), (qv_f E z o s p x true).2 = true
  | [], _, _, _ => rfl
  | k :: o, s, p, x => by
    unfold qv_f
    simp only [Bool.true_or]
    split
    · exact qv_f_m o _ _ _
    · split
      · split
        · exact qv_f_m o _ _ _
        · exact qv_f_m o _ _ _
      · exact qv_f_m o _ _ _
section MUV
variable {l : Launch} {D : va_G} {aC : Nat → ClassId} {base : Nat} {h : jjHp} {y : Nat} {ad : Nat → Nat} {rh : Nat → List Nat} {sg : Nat → Nat → Int32} {mu : Nat → Int64} {io : Nat → Int32}
theorem rr_unitValue {r b p0 : Nat} {fl : Bool} {u rest : List Nat} {R : Int32 × Bool} (hR : RR aC h y ad rh sg mu (iu io p0 fl)) (hr : r < 34) (hb : b < 12) (hbn : ¬ sg 2 b = 0) (he : (rh r).drop p0 = u ++ rest) (hu : qv_u u) (hd : pc_dg (rest.headD 0) = false) (hG : qv_e (rr_E sg b) u = R) : jj_Ct l D aC base yn_MO_unitValue yb_MO_unitValue 5 (some .int) 3 0 0 [.ref y, .int (nI r), .int (nI b)] h (fun q h' => q = some (.int R.1) ∧ RR aC h' y ad rh sg mu (iu io (p0 + u.length) (fl || R.2)) ∧ jj_fr (rr_S y ad) h h') := by
  obtain ⟨hlen, hch⟩ := hR.len hr
  have hy := hR.oy
  have hp0 : p0 + u.length ≤ (rh r).length := by
    have := congrArg List.length he
    rw [List.length_drop, List.length_append] at this
    rcases hu with ⟨c, rfl, -, -⟩ | ⟨hne, -, -⟩
    · have hl : [c].length = 1 := rfl
      omega
    · have := List.length_pos_iff.mpr hne
      omega
  rcases hu with ⟨c, hu1, c1, c2⟩ | ⟨hne, hul, hdg⟩
  · have hul : u.length = 1 := by rw [hu1]; rfl
    rw [hu1] at he hG
    obtain ⟨x1, x2, x3⟩ := qd_cons he
    have hE : qv_e (rr_E sg b) [c] = ((rr_E sg b (c - 97)).getD 0, (rr_E sg b (c - 97)).isNone) := by
      unfold qv_e
      show (if 97 ≤ c ∧ c ≤ 101 then _ else _) = _
      rw [if_pos ⟨c1, c2⟩]
      rfl
    have hslot : px_slot (sg 2) (nI b) (nI (c - 97)) = true := by
      unfold px_slot
      rw [px_at_n (by omega) (by decide), px_at_n (by omega) (by decide)]
      simp [px_b, hbn]
    have hG1 : R.1 = (rr_E sg b (c - 97)).getD 0 := by rw [← hG, hE]
    have hG2 : R.2 = (rr_E sg b (c - 97)).isNone := by rw [← hG, hE]
    refine jj_start (tb := tb_MO_unitValue) (by decide) tg_MO_unitValue (Nat.le_of_ble_eq_true rfl) ?_
    intro p e s m args below meth cc C
    refine jj_go C 3 rfl ?_
    refine jj_getf C rfl fl_MO_216 hy rfl ?_
    refine jj_top (show iu io p0 fl 28 = nI p0 from rfl) ?_
    refine jj_callV C rfl ml_MO_83 wd_988 hy rfl se_MO_MO_get1 (rr_get1 (r := r) (x := nI p0) hR hr) (rest := []) rfl rfl ⟨Nat.le_of_ble_eq_true rfl, Nat.le_of_ble_eq_true rfl⟩ (Nat.le_of_ble_eq_true rfl) (Nat.le_of_ble_eq_true rfl) (Nat.le_of_ble_eq_true rfl) ?_
    rintro q9 h9 ⟨rfl, hh9⟩
    rw [hh9]
    rw [jr_g_n (by omega), x1]
    refine jj_go C 2 rfl ?_
    refine jj_callS C rfl ml_MO_95 wd_1002 (mo_isSmall (c := c) (by omega)) (rest := []) rfl rfl ⟨Nat.le_of_ble_eq_true rfl, Nat.le_of_ble_eq_true rfl⟩ (Nat.le_of_ble_eq_true rfl) (Nat.le_of_ble_eq_true rfl) (Nat.le_of_ble_eq_true rfl) ?_
    rintro q9 h9 ⟨rfl, hh9⟩
    rw [hh9]
    rw [pc_sm_i.mpr ⟨c1, by omega⟩]
    refine jj_if C rfl (fun z => absurd z (by decide)) (fun _ => ?_)
    refine jj_go C 2 rfl ?_
    refine jj_getf C rfl fl_MO_216 hy rfl ?_
    refine jj_top (show iu io p0 fl 28 = nI p0 from rfl) ?_
    refine jj_go C 2 rfl ?_
    refine jj_top (nI_1 p0) ?_
    refine jj_putf C rfl fl_MO_216 hy rfl rfl (Nat.le_of_ble_eq_true rfl) ?_
    have hR1 : RR aC (jj_up h y (.inr (9, (rr_fs ad (iu io p0 fl)).set 28 (.int (nI (p0 + 1)))))) y ad rh sg mu (iu io (p0 + 1) fl) := hR.put rfl
    have hf1 : jj_fr (rr_S y ad) h (jj_up h y (.inr (9, (rr_fs ad (iu io p0 fl)).set 28 (.int (nI (p0 + 1)))))) := jj_fr.rf.up (Or.inl rr_S_y)
    generalize (jj_up h y (.inr (9, (rr_fs ad (iu io p0 fl)).set 28 (.int (nI (p0 + 1)))))) = h1 at hR1 hf1 ⊢
    have fin : ∀ b2 : Bool, (fl || (rr_E sg b (c - 97)).isNone) = b2 → jj_J p l e (jj_rm 3 0 0) s m args below meth cc D base 5 (MQ below (jj_Q D base (fun q h' => q = some (.int R.1) ∧ RR aC h' y ad rh sg mu (iu io (p0 + u.length) (fl || R.2)) ∧ jj_fr (rr_S y ad) h h')) args s 0 0 (jj_A base)) 56 [(0, .ref y), (1, .int (nI r)), (2, .int (nI b)), (3, .int (nI c))] [.int (jb_I b2), .ref y] h1 0 0 := by
      intro b2 hb2
      refine jj_putf C rfl fl_MO_219 hR1.oy jb_nar jb_fit (Nat.le_of_ble_eq_true rfl) ?_
      have hR2 : RR aC (jj_up h1 y (.inr (9, (rr_fs ad (iu io (p0 + 1) fl)).set 27 (.int (jb_I b2))))) y ad rh sg mu (iu io (p0 + 1) b2) := hR1.put rfl
      have hf2 : jj_fr (rr_S y ad) h (jj_up h1 y (.inr (9, (rr_fs ad (iu io (p0 + 1) fl)).set 27 (.int (jb_I b2))))) := hf1.up (Or.inl rr_S_y)
      generalize (jj_up h1 y (.inr (9, (rr_fs ad (iu io (p0 + 1) fl)).set 27 (.int (jb_I b2))))) = h2 at hR2 hf2 ⊢
      refine jj_go C 5 rfl ?_
      refine jj_top (show nI c - 97 = nI (c - 97) from pk_sub (b := 97) c1) ?_
      refine jj_callV C rfl ml_MO_222 wd_1057 hR2.oy rfl se_MO_MO_get (rr_get_t (b := b) (i := c - 97) hR2 hb (by omega) hslot) (rest := []) rfl rfl ⟨Nat.le_of_ble_eq_true rfl, Nat.le_of_ble_eq_true rfl⟩ (Nat.le_of_ble_eq_true rfl) (Nat.le_of_ble_eq_true rfl) (Nat.le_of_ble_eq_true rfl) ?_
      rintro q9 h9 ⟨rfl, hh9⟩
      rw [hh9]
      refine jj_iret C rfl rfl rfl (Nat.le_of_ble_eq_true rfl) (Nat.le_of_ble_eq_true rfl) ⟨?_, ?_, hf2⟩
      · rw [hG1]
        congr 2
        unfold rr_E
        split <;> rfl
      · rw [hul, hG2, hb2]
        exact hR2
    refine jj_go C 2 rfl ?_
    refine jj_getf C rfl fl_MO_219 hR1.oy rfl ?_
    refine jj_top (show iu io (p0 + 1) fl 27 = jb_I fl from rfl) ?_
    cases fl with
    | true =>
      refine jj_if C rfl (fun z => absurd z (by decide)) (fun _ => ?_)
      refine jj_go C 2 rfl ?_
      exact fin true rfl
    | false =>
      refine jj_if C rfl (fun _ => ?_) (fun z => absurd rfl z)
      refine jj_go C 1 rfl ?_
      refine jj_getf C rfl fl_MO_24 hR1.oy rfl ?_
      refine jj_go C 7 rfl ?_
      refine jj_top (show 5 * nI b + nI c - 97 = nI (5 * b + (c - 97)) by rw [nI_5]; exact (pk_sub (a := 5 * b + c) (b := 97) (by omega)).trans (by congr 1; omega)) ?_
      refine jj_zald C (n := 60) (f := sg 4) rfl (hR1.oc (k := 4) (by decide) (by decide) (by decide)) rfl (by omega) (by decide) ?_
      refine jj_if C rfl (fun z => ?_) (fun z => ?_)
      · refine jj_go C 2 rfl ?_
        exact fin true (by unfold rr_E; rw [if_pos z]; rfl)
      · refine jj_go C 1 rfl ?_
        exact fin false (by unfold rr_E; rw [if_neg z]; rfl)
  · have hE : qv_e (rr_E sg b) u = (qv_n 0 u, false) := by
      unfold qv_e
      cases u with
      | nil => exact absurd rfl hne
      | cons c u =>
        have hc := pc_dg_i.mp (hdg c List.mem_cons_self)
        show (if 97 ≤ c ∧ c ≤ 101 then _ else _) = _
        rw [if_neg (by omega)]
    have hG1 : R.1 = qv_n 0 u := by rw [← hG, hE]
    have hG2 : (fl || R.2) = fl := by rw [← hG, hE, Bool.or_false]
    refine jj_start (tb := tb_MO_unitValue) (by decide) tg_MO_unitValue (Nat.le_of_ble_eq_true rfl) ?_
    intro p e s m args below meth cc C
    have loop : ∀ (u1 : List Nat) (p1 : Nat) (v : Int32) (h1 : jjHp) (c3 : Int32), (rh r).drop p1 = u1 ++ rest → (∀ c, c ∈ u1 → pc_dg c = true) → p1 + u1.length = p0 + u.length → qv_n v u1 = qv_n 0 u → RR aC h1 y ad rh sg mu (iu io p1 fl) → jj_fr (rr_S y ad) h h1 → jj_J p l e (jj_rm 3 0 0) s m args below meth cc D base 5 (MQ below (jj_Q D base (fun q h' => q = some (.int R.1) ∧ RR aC h' y ad rh sg mu (iu io (p0 + u.length) (fl || R.2)) ∧ jj_fr (rr_S y ad) h h')) args s 0 0 (jj_A base)) 72 [(0, .ref y), (1, .int (nI r)), (2, .int (nI b)), (3, .int c3), (4, .int v)] [] h1 0 0 := by
      intro u1
      induction u1 with
      | nil =>
        intro p1 v h1 c3 e1 hu1 hp1 hv hR1 hf1
        have hp1 : p1 = p0 + u.length := hp1
        have hc := hch p1
        have hd1 : pc_dg ((rh r).getD p1 0) = false := by
          rw [← qd_hd, e1]
          exact hd
        refine jj_go C 3 rfl ?_
        refine jj_getf C rfl fl_MO_216 hR1.oy rfl ?_
        refine jj_top (show iu io p1 fl 28 = nI p1 from rfl) ?_
        refine jj_callV C rfl ml_MO_83 wd_988 hR1.oy rfl se_MO_MO_get1 (rr_get1 (r := r) (x := nI p1) hR1 hr) (rest := []) rfl rfl ⟨Nat.le_of_ble_eq_true rfl, Nat.le_of_ble_eq_true rfl⟩ (Nat.le_of_ble_eq_true rfl) (Nat.le_of_ble_eq_true rfl) (Nat.le_of_ble_eq_true rfl) ?_
        rintro q9 h9 ⟨rfl, hh9⟩
        rw [hh9]
        rw [jr_g_n (by omega)]
        refine jj_callS C rfl ml_MO_99 wd_1005 (mo_isDigit (c := (rh r).getD p1 0) (by omega)) (rest := []) rfl rfl ⟨Nat.le_of_ble_eq_true rfl, Nat.le_of_ble_eq_true rfl⟩ (Nat.le_of_ble_eq_true rfl) (Nat.le_of_ble_eq_true rfl) (Nat.le_of_ble_eq_true rfl) ?_
        rintro q9 h9 ⟨rfl, hh9⟩
        rw [hh9]
        rw [hd1]
        refine jj_if C rfl (fun _ => ?_) (fun z => absurd rfl z)
        refine jj_go C 1 rfl ?_
        have hv : v = qv_n 0 u := hv
        rw [hp1] at hR1
        exact jj_iret C rfl rfl rfl (Nat.le_of_ble_eq_true rfl) (Nat.le_of_ble_eq_true rfl) ⟨by rw [hv, hG1], by rw [hG2]; exact hR1, hf1⟩
      | cons c u1 ih =>
        intro p1 v h1 c3 e1 hu1 hp1 hv hR1 hf1
        obtain ⟨x1, x2, x3⟩ := qd_cons e1
        have hc := hch p1
        rw [x1] at hc
        refine jj_go C 3 rfl ?_
        refine jj_getf C rfl fl_MO_216 hR1.oy rfl ?_
        refine jj_top (show iu io p1 fl 28 = nI p1 from rfl) ?_
        refine jj_callV C rfl ml_MO_83 wd_988 hR1.oy rfl se_MO_MO_get1 (rr_get1 (r := r) (x := nI p1) hR1 hr) (rest := []) rfl rfl ⟨Nat.le_of_ble_eq_true rfl, Nat.le_of_ble_eq_true rfl⟩ (Nat.le_of_ble_eq_true rfl) (Nat.le_of_ble_eq_true rfl) (Nat.le_of_ble_eq_true rfl) ?_
        rintro q9 h9 ⟨rfl, hh9⟩
        rw [hh9]
        rw [jr_g_n (by omega), x1]
        refine jj_callS C rfl ml_MO_99 wd_1005 (mo_isDigit (c := c) (by omega)) (rest := []) rfl rfl ⟨Nat.le_of_ble_eq_true rfl, Nat.le_of_ble_eq_true rfl⟩ (Nat.le_of_ble_eq_true rfl) (Nat.le_of_ble_eq_true rfl) (Nat.le_of_ble_eq_true rfl) ?_
        rintro q9 h9 ⟨rfl, hh9⟩
        rw [hh9]
        rw [hu1 c List.mem_cons_self]
        refine jj_if C rfl (fun z => absurd z (by decide)) (fun _ => ?_)
        refine jj_go C 6 rfl ?_
        refine jj_getf C rfl fl_MO_216 hR1.oy rfl ?_
        refine jj_top (show iu io p1 fl 28 = nI p1 from rfl) ?_
        refine jj_callV C rfl ml_MO_83 wd_988 hR1.oy rfl se_MO_MO_get1 (rr_get1 (r := r) (x := nI p1) hR1 hr) (rest := [.int (10 * v)]) rfl rfl ⟨Nat.le_of_ble_eq_true rfl, Nat.le_of_ble_eq_true rfl⟩ (Nat.le_of_ble_eq_true rfl) (Nat.le_of_ble_eq_true rfl) (Nat.le_of_ble_eq_true rfl) ?_
        rintro q9 h9 ⟨rfl, hh9⟩
        rw [hh9]
        rw [jr_g_n (by omega), x1]
        refine jj_go C 3 rfl ?_
        refine jj_top (nI_num (v := v) (c := c)) ?_
        refine jj_go C 3 rfl ?_
        refine jj_getf C rfl fl_MO_216 hR1.oy rfl ?_
        refine jj_top (show iu io p1 fl 28 = nI p1 from rfl) ?_
        refine jj_go C 2 rfl ?_
        refine jj_top (nI_1 p1) ?_
        refine jj_putf C rfl fl_MO_216 hR1.oy rfl rfl (Nat.le_of_ble_eq_true rfl) ?_
        have hR2 : RR aC (jj_up h1 y (.inr (9, (rr_fs ad (iu io p1 fl)).set 28 (.int (nI (p1 + 1)))))) y ad rh sg mu (iu io (p1 + 1) fl) := hR1.put rfl
        have hf2 : jj_fr (rr_S y ad) h (jj_up h1 y (.inr (9, (rr_fs ad (iu io p1 fl)).set 28 (.int (nI (p1 + 1)))))) := hf1.up (Or.inl rr_S_y)
        generalize (jj_up h1 y (.inr (9, (rr_fs ad (iu io p1 fl)).set 28 (.int (nI (p1 + 1)))))) = h2 at hR2 hf2 ⊢
        refine jj_go C 1 rfl ?_
        exact ih (p1 + 1) _ h2 c3 x2 (fun c hc => hu1 c (List.mem_cons_of_mem _ hc)) (by rw [← hp1, List.length_cons]; omega) hv hR2 hf2
    have hc := hch p0
    have hd0 : pc_dg ((rh r).getD p0 0) = true := by
      rw [← qd_hd, he]
      cases u with
      | nil => exact absurd rfl hne
      | cons c u => exact hdg c List.mem_cons_self
    have hd0' := pc_dg_i.mp hd0
    refine jj_go C 3 rfl ?_
    refine jj_getf C rfl fl_MO_216 hy rfl ?_
    refine jj_top (show iu io p0 fl 28 = nI p0 from rfl) ?_
    refine jj_callV C rfl ml_MO_83 wd_988 hy rfl se_MO_MO_get1 (rr_get1 (r := r) (x := nI p0) hR hr) (rest := []) rfl rfl ⟨Nat.le_of_ble_eq_true rfl, Nat.le_of_ble_eq_true rfl⟩ (Nat.le_of_ble_eq_true rfl) (Nat.le_of_ble_eq_true rfl) (Nat.le_of_ble_eq_true rfl) ?_
    rintro q9 h9 ⟨rfl, hh9⟩
    rw [hh9]
    rw [jr_g_n (by omega)]
    refine jj_go C 2 rfl ?_
    refine jj_callS C rfl ml_MO_95 wd_1002 (mo_isSmall (c := (rh r).getD p0 0) (by omega)) (rest := []) rfl rfl ⟨Nat.le_of_ble_eq_true rfl, Nat.le_of_ble_eq_true rfl⟩ (Nat.le_of_ble_eq_true rfl) (Nat.le_of_ble_eq_true rfl) (Nat.le_of_ble_eq_true rfl) ?_
    rintro q9 h9 ⟨rfl, hh9⟩
    rw [hh9]
    rw [pb_f pc_sm_i (by omega)]
    refine jj_if C rfl (fun _ => ?_) (fun z => absurd rfl z)
    refine jj_go C 2 rfl ?_
    exact loop u p0 0 h _ he hdg rfl rfl hR jj_fr.rf
theorem rr_value {r b p0 : Nat} {fl : Bool} {u rest : List Nat} {o : List (Nat × List Nat)} {R : Int32 × Bool} (hR : RR aC h y ad rh sg mu (iu io p0 fl)) (hr : r < 34) (hb : b < 12) (hbn : ¬ sg 2 b = 0) (he : (rh r).drop p0 = qv_t u o ++ rest) (hk : qv_k u o) (hd : qv_r rest) (hG : qv_v (rr_E sg b) (fun _ => 0) u o fl = R) : jj_Ct l D aC base yn_MO_value yb_MO_value 8 (some .int) 4 0 0 [.ref y, .int (nI r), .int (nI b)] h (fun q h' => q = some (.int R.1) ∧ RR aC h' y ad rh sg mu (iu io (p0 + (qv_t u o).length) R.2) ∧ jj_fr (rr_S y ad) h h') := by
  obtain ⟨hlen, hch⟩ := hR.len hr
  have hp0 : p0 + (qv_t u o).length ≤ (rh r).length := by
    have := congrArg List.length he
    have := qv_t_len hk
    simp only [List.length_drop, List.length_append] at *
    omega
  refine jj_start (tb := tb_MO_value) (by decide) tg_MO_value (Nat.le_of_ble_eq_true rfl) ?_
  intro p e s m args below meth cc C
  have loop : ∀ (o1 : List (Nat × List Nat)) (p1 : Nat) (s3 x4 : Int32) (pl f1 : Bool) (h1 : jjHp), (rh r).drop p1 = qv_o o1 ++ rest → (∀ x, x ∈ o1 → pc_op x.1 = true ∧ qv_u x.2) → p1 + (qv_o o1).length = p0 + (qv_t u o).length → qv_f (rr_E sg b) (fun _ => 0) o1 s3 pl x4 f1 = R → RR aC h1 y ad rh sg mu (iu io p1 f1) → jj_fr (rr_S y ad) h h1 → jj_J p l e (jj_rm 4 0 0) s m args below meth cc D base 8 (MQ below (jj_Q D base (fun q h' => q = some (.int R.1) ∧ RR aC h' y ad rh sg mu (iu io (p0 + (qv_t u o).length) R.2) ∧ jj_fr (rr_S y ad) h h')) args s 0 0 (jj_A base)) 13 [(0, .ref y), (1, .int (nI r)), (2, .int (nI b)), (3, .int s3), (4, .int x4), (5, .int (jb_I pl))] [] h1 0 0 := by
    intro o1
    induction o1 with
    | nil =>
      intro p1 s3 x4 pl f1 h1 e1 ho1 hp1 hG1 hR1 hf1
      have hp1 : p1 = p0 + (qv_t u o).length := hp1
      have hc := hch p1
      have hop : pc_op ((rh r).getD p1 0) = false := by
        rw [← qd_hd, e1]
        exact hd.2
      have hG1 : (if pl = true then s3 + x4 else s3 - x4, f1) = R := hG1
      have hpl : p1 < 2 ^ 31 := by omega
      refine jj_go C 3 rfl ?_
      refine jj_getf C rfl fl_MO_216 hR1.oy rfl ?_
      refine jj_top (show iu io p1 f1 28 = nI p1 from rfl) ?_
      refine jj_callV C rfl ml_MO_83 wd_988 hR1.oy rfl se_MO_MO_get1 (rr_get1 (r := r) (x := nI p1) hR1 hr) (rest := []) rfl rfl ⟨Nat.le_of_ble_eq_true rfl, Nat.le_of_ble_eq_true rfl⟩ (Nat.le_of_ble_eq_true rfl) (Nat.le_of_ble_eq_true rfl) (Nat.le_of_ble_eq_true rfl) ?_
      rintro q9 h9 ⟨rfl, hh9⟩
      rw [hh9]
      rw [jr_g_n hpl]
      refine jj_callS C rfl ml_MO_181 wd_1081 (mo_isOperator (c := (rh r).getD p1 0) (by omega)) (rest := []) rfl rfl ⟨Nat.le_of_ble_eq_true rfl, Nat.le_of_ble_eq_true rfl⟩ (Nat.le_of_ble_eq_true rfl) (Nat.le_of_ble_eq_true rfl) (Nat.le_of_ble_eq_true rfl) ?_
      rintro q9 h9 ⟨rfl, hh9⟩
      rw [hh9]
      rw [hop]
      refine jj_if C rfl (fun _ => ?_) (fun z => absurd rfl z)
      refine jj_go C 1 rfl ?_
      rw [hp1] at hR1
      cases pl with
      | false =>
        refine jj_if C rfl (fun _ => ?_) (fun z => absurd rfl z)
        refine jj_go C 3 rfl ?_
        exact jj_iret C rfl rfl rfl (Nat.le_of_ble_eq_true rfl) (Nat.le_of_ble_eq_true rfl) ⟨by rw [← hG1]; rfl, by rw [← hG1]; exact hR1, hf1⟩
      | true =>
        refine jj_if C rfl (fun z => absurd z (by decide)) (fun _ => ?_)
        refine jj_go C 4 rfl ?_
        exact jj_iret C rfl rfl rfl (Nat.le_of_ble_eq_true rfl) (Nat.le_of_ble_eq_true rfl) ⟨by rw [← hG1]; rfl, by rw [← hG1]; exact hR1, hf1⟩
    | cons k o1 ih =>
      intro p1 s3 x4 pl f1 h1 e1 ho1 hp1 hG1 hR1 hf1
      obtain ⟨k1, k2⟩ := ho1 k List.mem_cons_self
      have ho2 : ∀ x, x ∈ o1 → pc_op x.1 = true ∧ qv_u x.2 := fun x hx => ho1 x (List.mem_cons_of_mem _ hx)
      have e2 : (rh r).drop p1 = k.1 :: (k.2 ++ (qv_o o1 ++ rest)) := by
        rw [e1]
        show k.1 :: (k.2 ++ qv_o o1) ++ rest = _
        rw [List.cons_append, List.append_assoc]
      have hl1 : (qv_o (k :: o1)).length = k.2.length + (qv_o o1).length + 1 := by
        show (k.1 :: (k.2 ++ qv_o o1)).length = _
        rw [List.length_cons, List.length_append]
      obtain ⟨x1, x2, x3⟩ := qd_cons e2
      have x5 := qd_app x2
      have hc := hch p1
      rw [x1] at hc
      have hop := pc_op_i.mp k1
      refine jj_go C 3 rfl ?_
      refine jj_getf C rfl fl_MO_216 hR1.oy rfl ?_
      refine jj_top (show iu io p1 f1 28 = nI p1 from rfl) ?_
      refine jj_callV C rfl ml_MO_83 wd_988 hR1.oy rfl se_MO_MO_get1 (rr_get1 (r := r) (x := nI p1) hR1 hr) (rest := []) rfl rfl ⟨Nat.le_of_ble_eq_true rfl, Nat.le_of_ble_eq_true rfl⟩ (Nat.le_of_ble_eq_true rfl) (Nat.le_of_ble_eq_true rfl) (Nat.le_of_ble_eq_true rfl) ?_
      rintro q9 h9 ⟨rfl, hh9⟩
      rw [hh9]
      rw [jr_g_n (by omega), x1]
      refine jj_callS C rfl ml_MO_181 wd_1081 (mo_isOperator (c := k.1) (by omega)) (rest := []) rfl rfl ⟨Nat.le_of_ble_eq_true rfl, Nat.le_of_ble_eq_true rfl⟩ (Nat.le_of_ble_eq_true rfl) (Nat.le_of_ble_eq_true rfl) (Nat.le_of_ble_eq_true rfl) ?_
      rintro q9 h9 ⟨rfl, hh9⟩
      rw [hh9]
      rw [k1]
      refine jj_if C rfl (fun z => absurd z (by decide)) (fun _ => ?_)
      refine jj_go C 3 rfl ?_
      refine jj_getf C rfl fl_MO_216 hR1.oy rfl ?_
      refine jj_top (show iu io p1 f1 28 = nI p1 from rfl) ?_
      refine jj_callV C rfl ml_MO_83 wd_988 hR1.oy rfl se_MO_MO_get1 (rr_get1 (r := r) (x := nI p1) hR1 hr) (rest := []) rfl rfl ⟨Nat.le_of_ble_eq_true rfl, Nat.le_of_ble_eq_true rfl⟩ (Nat.le_of_ble_eq_true rfl) (Nat.le_of_ble_eq_true rfl) (Nat.le_of_ble_eq_true rfl) ?_
      rintro q9 h9 ⟨rfl, hh9⟩
      rw [hh9]
      rw [jr_g_n (by omega), x1]
      refine jj_go C 3 rfl ?_
      refine jj_getf C rfl fl_MO_216 hR1.oy rfl ?_
      refine jj_top (show iu io p1 f1 28 = nI p1 from rfl) ?_
      refine jj_go C 2 rfl ?_
      refine jj_top (nI_1 p1) ?_
      refine jj_putf C rfl fl_MO_216 hR1.oy rfl rfl (Nat.le_of_ble_eq_true rfl) ?_
      have hR2 : RR aC (jj_up h1 y (.inr (9, (rr_fs ad (iu io p1 f1)).set 28 (.int (nI (p1 + 1)))))) y ad rh sg mu (iu io (p1 + 1) f1) := hR1.put rfl
      have hf2 : jj_fr (rr_S y ad) h (jj_up h1 y (.inr (9, (rr_fs ad (iu io p1 f1)).set 28 (.int (nI (p1 + 1)))))) := hf1.up (Or.inl rr_S_y)
      generalize (jj_up h1 y (.inr (9, (rr_fs ad (iu io p1 f1)).set 28 (.int (nI (p1 + 1)))))) = h2 at hR2 hf2 ⊢
      refine jj_go C 3 rfl ?_
      refine jj_callV C rfl ml_MO_225 wd_1144 hR2.oy rfl se_MO_MO_unitValue (rr_unitValue (b := b) hR2 hr hb hbn x2 k2 (qv_o_dg ho2 hd) rfl) (rest := []) rfl rfl ⟨Nat.le_of_ble_eq_true rfl, Nat.le_of_ble_eq_true rfl⟩ (Nat.le_of_ble_eq_true rfl) (Nat.le_of_ble_eq_true rfl) (Nat.le_of_ble_eq_true rfl) ?_
      rintro q9 h3 ⟨rfl, hR3, hf3⟩
      have hf3 := hf2.tr hf3
      generalize hW : qv_e (rr_E sg b) k.2 = w at hR3 ⊢
      have hG1 : (if k.1 = 42 then qv_f (rr_E sg b) (fun _ => 0) o1 s3 pl (x4 * w.1) (f1 || w.2) else if k.1 = 47 then (if w.1 = 0 then qv_f (rr_E sg b) (fun _ => 0) o1 s3 pl 0 true else qv_f (rr_E sg b) (fun _ => 0) o1 s3 pl (x4 / w.1) (f1 || w.2)) else qv_f (rr_E sg b) (fun _ => 0) o1 (if pl = true then s3 + x4 else s3 - x4) (k.1 == 43) w.1 (f1 || w.2)) = R := by
        rw [← hW]
        exact hG1
      have back : ∀ (s5 x5 : Int32) (pl5 f5 : Bool) (h5 : jjHp), qv_f (rr_E sg b) (fun _ => 0) o1 s5 pl5 x5 f5 = R → RR aC h5 y ad rh sg mu (iu io (p1 + 1 + k.2.length) f5) → jj_fr (rr_S y ad) h h5 → jj_J p l e (jj_rm 4 0 0) s m args below meth cc D base 8 (MQ below (jj_Q D base (fun q h' => q = some (.int R.1) ∧ RR aC h' y ad rh sg mu (iu io (p0 + (qv_t u o).length) R.2) ∧ jj_fr (rr_S y ad) h h')) args s 0 0 (jj_A base)) 156 [(0, .ref y), (1, .int (nI r)), (2, .int (nI b)), (3, .int s5), (4, .int x5), (5, .int (jb_I pl5)), (6, .int (nI k.1)), (7, .int w.1)] [] h5 0 0 := by
        intro s5 x5' pl5 f5 h5 hG5 hR5 hf5
        refine jj_go C 1 rfl ?_
        refine jj_less (lc' := [(0, .ref y), (1, .int (nI r)), (2, .int (nI b)), (3, .int s5), (4, .int x5'), (5, .int (jb_I pl5))]) (fun q hq => List.mem_append_left [_, _] hq) (Nat.le_refl _) (Nat.le_refl _) ?_
        exact ih (p1 + 1 + k.2.length) s5 x5' pl5 f5 h5 x5 ho2 (by omega) hG5 hR5 hf5
      refine jj_go C 3 rfl ?_
      refine jj_if C rfl (fun z => ?_) (fun z => ?_)
      · have g := (nI_eq (a := k.1) (b := 42) (by omega) (by decide)).mp z
        rw [if_pos g] at hG1
        refine jj_go C 5 rfl ?_
        exact back s3 (x4 * w.1) pl (f1 || w.2) h3 hG1 hR3 hf3
      · have g : ¬ k.1 = 42 := fun q => z (by rw [q]; rfl)
        rw [if_neg g] at hG1
        refine jj_go C 2 rfl ?_
        refine jj_if C rfl (fun z2 => ?_) (fun z2 => ?_)
        · have g2 := (nI_eq (a := k.1) (b := 47) (by omega) (by decide)).mp z2
          rw [if_pos g2] at hG1
          have hx2 : w.1 = 0 → w.2 = w.2 := fun _ => rfl
          have set : ∀ f5 : Bool, f5 = ((f1 || w.2) || decide (w.1 = 0)) → jj_J p l e (jj_rm 4 0 0) s m args below meth cc D base 8 (MQ below (jj_Q D base (fun q h' => q = some (.int R.1) ∧ RR aC h' y ad rh sg mu (iu io (p0 + (qv_t u o).length) R.2) ∧ jj_fr (rr_S y ad) h h')) args s 0 0 (jj_A base)) 99 [(0, .ref y), (1, .int (nI r)), (2, .int (nI b)), (3, .int s3), (4, .int x4), (5, .int (jb_I pl)), (6, .int (nI k.1)), (7, .int w.1)] [.int (jb_I f5), .ref y] h3 0 0 := by
            intro f5 hf5
            refine jj_putf C rfl fl_MO_219 hR3.oy jb_nar jb_fit (Nat.le_of_ble_eq_true rfl) ?_
            have hR4 : RR aC (jj_up h3 y (.inr (9, (rr_fs ad (iu io (p1 + 1 + k.2.length) (f1 || w.2))).set 27 (.int (jb_I f5))))) y ad rh sg mu (iu io (p1 + 1 + k.2.length) f5) := hR3.put rfl
            have hf4 : jj_fr (rr_S y ad) h (jj_up h3 y (.inr (9, (rr_fs ad (iu io (p1 + 1 + k.2.length) (f1 || w.2))).set 27 (.int (jb_I f5))))) := hf3.up (Or.inl rr_S_y)
            generalize (jj_up h3 y (.inr (9, (rr_fs ad (iu io (p1 + 1 + k.2.length) (f1 || w.2))).set 27 (.int (jb_I f5))))) = h4 at hR4 hf4 ⊢
            refine jj_go C 1 rfl ?_
            refine jj_if C rfl (fun z => ?_) (fun z => ?_)
            · rw [if_pos z] at hG1
              rw [decide_eq_true z, Bool.or_true] at hf5
              rw [hf5] at hR4
              refine jj_go C 4 rfl ?_
              exact back s3 0 pl true h4 hG1 hR4 hf4
            · rw [if_neg z] at hG1
              rw [decide_eq_false z, Bool.or_false] at hf5
              rw [hf5] at hR4
              refine jj_go C 2 rfl ?_
              refine jj_idiv C rfl z ?_
              refine jj_go C 2 rfl ?_
              exact back s3 (x4 / w.1) pl (f1 || w.2) h4 hG1 hR4 hf4
          refine jj_go C 2 rfl ?_
          refine jj_getf C rfl fl_MO_219 hR3.oy rfl ?_
          refine jj_top (show iu io (p1 + 1 + k.2.length) (f1 || w.2) 27 = jb_I (f1 || w.2) from rfl) ?_
          cases hff : (f1 || w.2) with
          | true =>
            refine jj_if C rfl (fun z => absurd z (by decide)) (fun _ => ?_)
            refine jj_go C 2 rfl ?_
            exact set true (by rw [hff]; rfl)
          | false =>
            refine jj_if C rfl (fun _ => ?_) (fun z => absurd rfl z)
            refine jj_go C 1 rfl ?_
            refine jj_if C rfl (fun z => ?_) (fun z => ?_)
            · refine jj_go C 2 rfl ?_
              exact set true (by rw [decide_eq_true z, Bool.or_true])
            · refine jj_go C 1 rfl ?_
              exact set false (by rw [hff, decide_eq_false z]; rfl)
        · have g2 : ¬ k.1 = 47 := fun q => z2 (by rw [q]; rfl)
          rw [if_neg g2] at hG1
          have join : ∀ s5 : Int32, (if pl = true then s3 + x4 else s3 - x4) = s5 → jj_J p l e (jj_rm 4 0 0) s m args below meth cc D base 8 (MQ below (jj_Q D base (fun q h' => q = some (.int R.1) ∧ RR aC h' y ad rh sg mu (iu io (p0 + (qv_t u o).length) R.2) ∧ jj_fr (rr_S y ad) h h')) args s 0 0 (jj_A base)) 137 [(0, .ref y), (1, .int (nI r)), (2, .int (nI b)), (3, .int s3), (4, .int x4), (5, .int (jb_I pl)), (6, .int (nI k.1)), (7, .int w.1)] [.int s5] h3 0 0 := by
            intro s5 hs5
            rw [hs5] at hG1
            refine jj_go C 3 rfl ?_
            refine jj_if C rfl (fun z3 => ?_) (fun z3 => ?_)
            · have g3 := (nI_eq (a := k.1) (b := 43) (by omega) (by decide)).mp z3
              rw [g3] at hG1
              refine jj_go C 5 rfl ?_
              exact back s5 w.1 true (f1 || w.2) h3 hG1 hR3 hf3
            · have g3 : ¬ k.1 = 43 := fun q => z3 (by rw [q]; rfl)
              rw [beq_eq_false_iff_ne.mpr g3] at hG1
              refine jj_go C 4 rfl ?_
              exact back s5 w.1 false (f1 || w.2) h3 hG1 hR3 hf3
          refine jj_go C 1 rfl ?_
          cases pl with
          | false =>
            refine jj_if C rfl (fun _ => ?_) (fun z => absurd rfl z)
            refine jj_go C 3 rfl ?_
            exact join _ rfl
          | true =>
            refine jj_if C rfl (fun z => absurd z (by decide)) (fun _ => ?_)
            refine jj_go C 4 rfl ?_
            exact join _ rfl
  have e0 : (rh r).drop p0 = u ++ (qv_o o ++ rest) := by
    rw [he]
    unfold qv_t
    rw [List.append_assoc]
  refine jj_go C 5 rfl ?_
  refine jj_callV C rfl ml_MO_225 wd_1144 hR.oy rfl se_MO_MO_unitValue (rr_unitValue (b := b) hR hr hb hbn e0 hk.1 (qv_o_dg hk.2 hd) rfl) (rest := []) rfl rfl ⟨Nat.le_of_ble_eq_true rfl, Nat.le_of_ble_eq_true rfl⟩ (Nat.le_of_ble_eq_true rfl) (Nat.le_of_ble_eq_true rfl) (Nat.le_of_ble_eq_true rfl) ?_
  rintro q9 h1 ⟨rfl, hR1, hf1⟩
  refine jj_go C 3 rfl ?_
  refine loop o (p0 + u.length) 0 _ true _ h1 (qd_app e0) hk.2 ?_ hG hR1 hf1
  unfold qv_t
  rw [List.length_append]
  omega
theorem rr_comparison {r b p0 c0 : Nat} {u u' rest : List Nat} {o o' : List (Nat × List Nat)} (hR : RR aC h y ad rh sg mu (iu io p0 false)) (hr : r < 34) (hb : b < 12) (hbn : ¬ sg 2 b = 0) (he : (rh r).drop p0 = (qv_t u o ++ c0 :: qv_t u' o') ++ rest) (hk : qv_k u o) (hk' : qv_k u' o') (hc0 : pc_rl c0 = true) (hd : qv_r rest) : jj_Ct l D aC base yn_MO_comparison yb_MO_comparison 6 (some .boolean) 5 0 0 [.ref y, .int (nI r), .int (nI b)] h (fun q h' => ∃ rr : Bool, q = some (.int (jb_I rr)) ∧ (qv_a (rr_E sg b) u o c0 u' o' ≠ 2 → rr = (qv_a (rr_E sg b) u o c0 u' o' == 1)) ∧ RR aC h' y ad rh sg mu (iu io (p0 + (qv_t u o ++ c0 :: qv_t u' o').length) (qv_a (rr_E sg b) u o c0 u' o' == 2)) ∧ jj_fr (rr_S y ad) h h') := by
  obtain ⟨hlen, hch⟩ := hR.len hr
  have e1 : (rh r).drop p0 = qv_t u o ++ (c0 :: (qv_t u' o' ++ rest)) := by
    rw [he, List.append_assoc]
    rfl
  obtain ⟨x1, x2, x3⟩ := qd_cons (qd_app e1)
  have hcl := pc_rl_i.mp hc0
  -- what the two say
  generalize hV1 : qv_v (rr_E sg b) (fun _ => 0) u o false = V1
  generalize hV2 : qv_v (rr_E sg b) (fun _ => 0) u' o' V1.2 = V2
  have z1 := qv_f_z (E := rr_E sg b) (z := fun _ => 0) (z' := id) o 0 0 true (qv_e (rr_E sg b) u).1 (qv_e (rr_E sg b) u).1 (false || (qv_e (rr_E sg b) u).2) (fun _ => ⟨rfl, rfl⟩)
  have z1 : (qv_v (rr_E sg b) (fun _ => 0) u o false).2 = (qv_v (rr_E sg b) id u o false).2 ∧ ((qv_v (rr_E sg b) (fun _ => 0) u o false).2 = false → (qv_v (rr_E sg b) (fun _ => 0) u o false).1 = (qv_v (rr_E sg b) id u o false).1) := z1
  rw [hV1] at z1
  have z2 := qv_f_z (E := rr_E sg b) (z := fun _ => 0) (z' := id) o' 0 0 true (qv_e (rr_E sg b) u').1 (qv_e (rr_E sg b) u').1 (V1.2 || (qv_e (rr_E sg b) u').2) (fun _ => ⟨rfl, rfl⟩)
  have z2 : (qv_v (rr_E sg b) (fun _ => 0) u' o' V1.2).2 = (qv_v (rr_E sg b) id u' o' V1.2).2 ∧ ((qv_v (rr_E sg b) (fun _ => 0) u' o' V1.2).2 = false → (qv_v (rr_E sg b) (fun _ => 0) u' o' V1.2).1 = (qv_v (rr_E sg b) id u' o' V1.2).1) := z2
  rw [hV2] at z2
  have hmono : V2.2 = false → V1.2 = false := by
    intro q
    cases hq : V1.2 with
    | false => rfl
    | true =>
      rw [hq] at hV2
      have hm := qv_f_m (E := rr_E sg b) (z := fun _ => 0) o' 0 true (qv_e (rr_E sg b) u').1
      have : (qv_v (rr_E sg b) (fun _ => 0) u' o' true).2 = true := hm
      rw [hV2, q] at this
      cases this
  have hA : qv_a (rr_E sg b) u o c0 u' o' = if V2.2 = true then 2 else if qx_cm V1.1 c0 V2.1 = true then 1 else 0 := by
    unfold qv_a
    rw [← z1.1, ← z2.1]
    cases hq : V2.2 with
    | true => rfl
    | false =>
      rw [z2.2 hq, z1.2 (hmono hq)]
  have hA2 : (qv_a (rr_E sg b) u o c0 u' o' == 2) = V2.2 := by
    rw [hA]
    cases V2.2 with
    | true => rfl
    | false =>
      rw [if_neg (by decide)]
      split <;> rfl
  have hA1 : qv_a (rr_E sg b) u o c0 u' o' ≠ 2 → qx_cm V1.1 c0 V2.1 = (qv_a (rr_E sg b) u o c0 u' o' == 1) := by
    intro hn
    rw [hA] at hn ⊢
    cases hq : V2.2 with
    | true =>
      rw [hq] at hn
      exact absurd rfl hn
    | false =>
      rw [if_neg (by decide)]
      cases qx_cm V1.1 c0 V2.1 <;> rfl
  rw [hA2]
  generalize hAA : qv_a (rr_E sg b) u o c0 u' o' = AA at hA1 ⊢
  refine jj_start (tb := tb_MO_comparison) (by decide) tg_MO_comparison (Nat.le_of_ble_eq_true rfl) ?_
  intro p e s m args below meth cc C
  refine jj_go C 3 rfl ?_
  refine jj_callV C rfl ml_MO_228 wd_1140 hR.oy rfl se_MO_MO_value (rr_value (b := b) hR hr hb hbn e1 hk (qv_r_rl hc0) hV1) (rest := []) rfl rfl ⟨Nat.le_of_ble_eq_true rfl, Nat.le_of_ble_eq_true rfl⟩ (Nat.le_of_ble_eq_true rfl) (Nat.le_of_ble_eq_true rfl) (Nat.le_of_ble_eq_true rfl) ?_
  rintro q9 h1 ⟨rfl, hR1, hf1⟩
  refine jj_go C 4 rfl ?_
  refine jj_getf C rfl fl_MO_216 hR1.oy rfl ?_
  refine jj_top (show iu io (p0 + (qv_t u o).length) V1.2 28 = nI (p0 + (qv_t u o).length) from rfl) ?_
  refine jj_callV C rfl ml_MO_83 wd_988 hR1.oy rfl se_MO_MO_get1 (rr_get1 (r := r) (x := nI (p0 + (qv_t u o).length)) hR1 hr) (rest := []) rfl rfl ⟨Nat.le_of_ble_eq_true rfl, Nat.le_of_ble_eq_true rfl⟩ (Nat.le_of_ble_eq_true rfl) (Nat.le_of_ble_eq_true rfl) (Nat.le_of_ble_eq_true rfl) ?_
  rintro q9 h9 ⟨rfl, hh9⟩
  rw [hh9]
  rw [jr_g_n (by omega), x1]
  refine jj_go C 3 rfl ?_
  refine jj_getf C rfl fl_MO_216 hR1.oy rfl ?_
  refine jj_top (show iu io (p0 + (qv_t u o).length) V1.2 28 = nI (p0 + (qv_t u o).length) from rfl) ?_
  refine jj_go C 2 rfl ?_
  refine jj_top (nI_1 (p0 + (qv_t u o).length)) ?_
  refine jj_putf C rfl fl_MO_216 hR1.oy rfl rfl (Nat.le_of_ble_eq_true rfl) ?_
  have hR2 : RR aC (jj_up h1 y (.inr (9, (rr_fs ad (iu io (p0 + (qv_t u o).length) V1.2)).set 28 (.int (nI (p0 + (qv_t u o).length + 1)))))) y ad rh sg mu (iu io (p0 + (qv_t u o).length + 1) V1.2) := hR1.put rfl
  have hf2 : jj_fr (rr_S y ad) h (jj_up h1 y (.inr (9, (rr_fs ad (iu io (p0 + (qv_t u o).length) V1.2)).set 28 (.int (nI (p0 + (qv_t u o).length + 1)))))) := hf1.up (Or.inl rr_S_y)
  generalize (jj_up h1 y (.inr (9, (rr_fs ad (iu io (p0 + (qv_t u o).length) V1.2)).set 28 (.int (nI (p0 + (qv_t u o).length + 1)))))) = h2 at hR2 hf2 ⊢
  refine jj_go C 3 rfl ?_
  refine jj_callV C rfl ml_MO_228 wd_1140 hR2.oy rfl se_MO_MO_value (rr_value (b := b) hR2 hr hb hbn x2 hk' hd hV2) (rest := []) rfl rfl ⟨Nat.le_of_ble_eq_true rfl, Nat.le_of_ble_eq_true rfl⟩ (Nat.le_of_ble_eq_true rfl) (Nat.le_of_ble_eq_true rfl) (Nat.le_of_ble_eq_true rfl) ?_
  rintro q9 h3 ⟨rfl, hR3, hf3⟩
  have hf3 := hf2.tr hf3
  have hl : (qv_t u o ++ c0 :: qv_t u' o').length = (qv_t u o).length + 1 + (qv_t u' o').length := by
    rw [List.length_append, List.length_cons]
    omega
  rw [hl, show p0 + ((qv_t u o).length + 1 + (qv_t u' o').length) = p0 + (qv_t u o).length + 1 + (qv_t u' o').length by omega]
  have fin : ∀ rr : Bool, qx_cm V1.1 c0 V2.1 = rr → jj_J p l e (jj_rm 5 0 0) s m args below meth cc D base 6 (MQ below (jj_Q D base (fun q h' => ∃ rr : Bool, q = some (.int (jb_I rr)) ∧ (AA ≠ 2 → rr = (AA == 1)) ∧ RR aC h' y ad rh sg mu (iu io (p0 + (qv_t u o).length + 1 + (qv_t u' o').length) V2.2) ∧ jj_fr (rr_S y ad) h h')) args s 0 0 (jj_A base)) 110 [(0, .ref y), (1, .int (nI r)), (2, .int (nI b)), (3, .int V1.1), (4, .int (nI c0)), (5, .int V2.1)] [.int (jb_I rr)] h3 0 0 := by
    intro rr hrr
    exact jj_iret C rfl rfl jb_nar (Nat.le_of_ble_eq_true rfl) (Nat.le_of_ble_eq_true rfl) ⟨rr, rfl, fun q => hrr.symm.trans (hA1 q), hR3, hf3⟩
  unfold qx_cm at fin
  refine jj_go C 3 rfl ?_
  refine jj_if C rfl (fun z => ?_) (fun z => ?_)
  · have g := (nI_eq (a := c0) (b := 61) (by omega) (by decide)).mp z
    subst g
    refine jj_go C 2 rfl ?_
    refine jj_if C rfl (fun z2 => ?_) (fun z2 => ?_)
    · refine jj_go C 2 rfl ?_
      exact fin true (by simp [z2])
    · refine jj_go C 2 rfl ?_
      exact fin false (by simp [z2])
  · have g : ¬ c0 = 61 := fun q => z (by rw [q]; rfl)
    refine jj_go C 2 rfl ?_
    refine jj_if C rfl (fun z => ?_) (fun z => ?_)
    · have g := (nI_eq (a := c0) (b := 60) (by omega) (by decide)).mp z
      subst g
      refine jj_go C 2 rfl ?_
      refine jj_if C rfl (fun z2 => ?_) (fun z2 => ?_)
      · refine jj_go C 2 rfl ?_
        exact fin false (by simp [Int32.not_lt.mpr z2])
      · refine jj_go C 2 rfl ?_
        exact fin true (by simp [Int32.not_le.mp z2])
    · have g2 : ¬ c0 = 60 := fun q => z (by rw [q]; rfl)
      refine jj_go C 2 rfl ?_
      refine jj_if C rfl (fun z => ?_) (fun z => ?_)
      · have g := (nI_eq (a := c0) (b := 62) (by omega) (by decide)).mp z
        subst g
        refine jj_go C 2 rfl ?_
        refine jj_if C rfl (fun z2 => ?_) (fun z2 => ?_)
        · refine jj_go C 2 rfl ?_
          exact fin false (by simp [Int32.not_lt.mpr z2])
        · refine jj_go C 2 rfl ?_
          exact fin true (by simp [Int32.not_le.mp z2])
      · have g3 : ¬ c0 = 62 := fun q => z (by rw [q]; rfl)
        have g4 : c0 = 35 := by omega
        subst g4
        refine jj_go C 2 rfl ?_
        refine jj_if C rfl (fun z2 => ?_) (fun z2 => ?_)
        · refine jj_go C 1 rfl ?_
          exact fin false (by simp [z2])
        · refine jj_go C 2 rfl ?_
          exact fin true (by simp [z2])
end MUV
