/-! The reference: beanWith, isBean, isSlot, set, unset, get, isAsked, isMonitor, cancel, mark, listen, notice, selected -/
def px_at (n : Nat) (g : Nat → Bool) (x : Int32) : Bool := if x < 0 then false else if nI n ≤ x then false else g x.toNatClampNeg
theorem px_at_n {n j : Nat} {g : Nat → Bool} (hj : j < n) (hn : n < 2 ^ 31) : px_at n g (nI j) = g j := by
  unfold px_at
  rw [if_neg (nI_pos (by omega)), if_neg (nI_ge hj hn), nI_clamp (by omega)]
theorem px_at_neg {n : Nat} {g : Nat → Bool} {x : Int32} (h : x < 0) : px_at n g x = false := if_pos h
theorem px_at_ge {n : Nat} {g : Nat → Bool} {x : Int32} (h : nI n ≤ x) : px_at n g x = false := by
  unfold px_at
  by_cases h0 : x < 0
  · rw [if_pos h0]
  · rw [if_neg h0, if_pos h]
theorem px_at_t {n : Nat} {g : Nat → Bool} {x : Int32} (hn : n < 2 ^ 31) (h : px_at n g x = true) : ∃ j, j < n ∧ x = nI j ∧ g j = true := by
  unfold px_at at h
  by_cases h0 : x < 0
  · rw [if_pos h0] at h
    cases h
  · rw [if_neg h0] at h
    obtain ⟨j, hj, rfl⟩ := nI_of h0
    by_cases h1 : nI n ≤ nI j
    · rw [if_pos h1] at h
      cases h
    · rw [if_neg h1, nI_clamp hj] at h
      exact ⟨j, Nat.not_le.mp (fun q => h1 (nI_le q hj)), rfl, h⟩
def px_b (f : Nat → Int32) : Nat → Bool := fun j => !(f j == 0)
theorem px_b_t {f : Nat → Int32} {j : Nat} : px_b f j = true ↔ ¬ f j = 0 := by simp [px_b]
theorem px_b_f {f : Nat → Int32} {j : Nat} : px_b f j = false ↔ f j = 0 := by simp [px_b]
theorem nI_5 {b a : Nat} : (5 : Int32) * nI b + nI a = nI (5 * b + a) := by
  rw [show (5 : Int32) * nI b = nI (5 * b) from pk_mul 5 b, nI_add]
theorem nI_4 {b a : Nat} : (4 : Int32) * nI b + nI a = nI (4 * b + a) := by
  rw [show (4 : Int32) * nI b = nI (4 * b) from pk_mul 4 b, nI_add]
def px_slot (f : Nat → Int32) (x a : Int32) : Bool := px_at 12 (px_b f) x && px_at 5 (fun _ => true) a
theorem px_slot_t {f : Nat → Int32} {x a : Int32} (h : px_slot f x a = true) : ∃ b i, b < 12 ∧ i < 5 ∧ x = nI b ∧ a = nI i ∧ ¬ f b = 0 := by
  unfold px_slot at h
  obtain ⟨h1, h2⟩ := Bool.and_eq_true_iff.mp h
  obtain ⟨b, hb, e1, g⟩ := px_at_t (by decide) h1
  obtain ⟨i, hi, e2, -⟩ := px_at_t (by decide) h2
  exact ⟨b, i, hb, hi, e1, e2, px_b_t.mp g⟩
/-- the first bean of this form -/
def px_bw (th : Nat → Int32) (rh : Nat → List Nat) (t : List Nat) : Nat → Nat → Option Nat
  | 0, _ => none
  | k + 1, j => if ¬ th j = 0 ∧ rh j = t then some j else px_bw th rh t k (j + 1)
def px_oi (o : Option Nat) : Int32 := match o with
  | none => -1
  | some b => nI b
section MB
variable {l : Launch} {D : va_G} {aC : Nat → ClassId} {base : Nat} {h : jjHp} {y : Nat} {ad : Nat → Nat} {rh : Nat → List Nat} {sg : Nat → Nat → Int32} {mu : Nat → Int64} {io : Nat → Int32}
theorem rr_isBean {x : Int32} (hR : RR aC h y ad rh sg mu io) : jj_Ct l D aC base yn_MO_isBean yb_MO_isBean 2 (some .boolean) 0 0 0 [.ref y, .int x] h (fun q h' => q = some (.int (jb_I (px_at 12 (px_b (sg 2)) x))) ∧ h' = h) := by
  refine jj_start (tb := tb_MO_isBean) (by decide) tg_MO_isBean (Nat.le_of_ble_eq_true rfl) ?_
  intro p e s m args below meth cc C
  have hy := hR.oy
  have hcell := hR.oc (k := 2) (by decide) (by decide) (by decide)
  refine jj_go C 1 rfl ?_
  refine jj_if C rfl (fun z => ?_) (fun z => ?_)
  · refine jj_go C 1 rfl ?_
    exact jj_iret C rfl rfl rfl (Nat.le_of_ble_eq_true rfl) (Nat.le_of_ble_eq_true rfl) ⟨by rw [px_at_neg z]; rfl, rfl⟩
  obtain ⟨j, hj, rfl⟩ := nI_of z
  refine jj_go C 2 rfl ?_
  refine jj_if C rfl (fun z => ?_) (fun z => ?_)
  · refine jj_go C 1 rfl ?_
    exact jj_iret C rfl rfl rfl (Nat.le_of_ble_eq_true rfl) (Nat.le_of_ble_eq_true rfl) ⟨by rw [px_at_ge (show nI 12 ≤ nI j from z)]; rfl, rfl⟩
  have hlt : j < 12 := Nat.not_le.mp (fun q => z (nI_le q hj))
  rw [px_at_n hlt (by decide)]
  refine jj_go C 1 rfl ?_
  refine jj_getf C rfl fl_MO_17 hy rfl ?_
  refine jj_go C 1 rfl ?_
  refine jj_zald C (n := 12) rfl hcell rfl hlt (by decide) ?_
  refine jj_if C rfl (fun z => ?_) (fun z => ?_)
  · refine jj_go C 1 rfl ?_
    exact jj_iret C rfl rfl rfl (Nat.le_of_ble_eq_true rfl) (Nat.le_of_ble_eq_true rfl) ⟨by rw [px_b_f.mpr z]; rfl, rfl⟩
  · refine jj_go C 2 rfl ?_
    exact jj_iret C rfl rfl rfl (Nat.le_of_ble_eq_true rfl) (Nat.le_of_ble_eq_true rfl) ⟨by rw [px_b_t.mpr z]; rfl, rfl⟩
theorem rr_isAsked {x : Int32} (hR : RR aC h y ad rh sg mu io) : jj_Ct l D aC base yn_MO_isAsked yb_MO_isAsked 2 (some .boolean) 0 0 0 [.ref y, .int x] h (fun q h' => q = some (.int (jb_I (px_at 6 (px_b (sg 5)) x))) ∧ h' = h) := by
  refine jj_start (tb := tb_MO_isAsked) (by decide) tg_MO_isAsked (Nat.le_of_ble_eq_true rfl) ?_
  intro p e s m args below meth cc C
  have hy := hR.oy
  have hcell := hR.oc (k := 5) (by decide) (by decide) (by decide)
  refine jj_go C 1 rfl ?_
  refine jj_if C rfl (fun z => ?_) (fun z => ?_)
  · refine jj_go C 1 rfl ?_
    exact jj_iret C rfl rfl rfl (Nat.le_of_ble_eq_true rfl) (Nat.le_of_ble_eq_true rfl) ⟨by rw [px_at_neg z]; rfl, rfl⟩
  obtain ⟨j, hj, rfl⟩ := nI_of z
  refine jj_go C 2 rfl ?_
  refine jj_if C rfl (fun z => ?_) (fun z => ?_)
  · refine jj_go C 1 rfl ?_
    exact jj_iret C rfl rfl rfl (Nat.le_of_ble_eq_true rfl) (Nat.le_of_ble_eq_true rfl) ⟨by rw [px_at_ge (show nI 6 ≤ nI j from z)]; rfl, rfl⟩
  have hlt : j < 6 := Nat.not_le.mp (fun q => z (nI_le q hj))
  rw [px_at_n hlt (by decide)]
  refine jj_go C 1 rfl ?_
  refine jj_getf C rfl fl_MO_27 hy rfl ?_
  refine jj_go C 1 rfl ?_
  refine jj_zald C (n := 6) rfl hcell rfl hlt (by decide) ?_
  refine jj_if C rfl (fun z => ?_) (fun z => ?_)
  · refine jj_go C 1 rfl ?_
    exact jj_iret C rfl rfl rfl (Nat.le_of_ble_eq_true rfl) (Nat.le_of_ble_eq_true rfl) ⟨by rw [px_b_f.mpr z]; rfl, rfl⟩
  · refine jj_go C 2 rfl ?_
    exact jj_iret C rfl rfl rfl (Nat.le_of_ble_eq_true rfl) (Nat.le_of_ble_eq_true rfl) ⟨by rw [px_b_t.mpr z]; rfl, rfl⟩
theorem rr_isMonitor {x : Int32} (hR : RR aC h y ad rh sg mu io) : jj_Ct l D aC base yn_MO_isMonitor yb_MO_isMonitor 2 (some .boolean) 0 0 0 [.ref y, .int x] h (fun q h' => q = some (.int (jb_I (px_at 6 (fun j => !(decide (sg 6 j ≤ 0))) x))) ∧ h' = h) := by
  refine jj_start (tb := tb_MO_isMonitor) (by decide) tg_MO_isMonitor (Nat.le_of_ble_eq_true rfl) ?_
  intro p e s m args below meth cc C
  have hy := hR.oy
  have hcell := hR.oc (k := 6) (by decide) (by decide) (by decide)
  refine jj_go C 1 rfl ?_
  refine jj_if C rfl (fun z => ?_) (fun z => ?_)
  · refine jj_go C 1 rfl ?_
    exact jj_iret C rfl rfl rfl (Nat.le_of_ble_eq_true rfl) (Nat.le_of_ble_eq_true rfl) ⟨by rw [px_at_neg z]; rfl, rfl⟩
  obtain ⟨j, hj, rfl⟩ := nI_of z
  refine jj_go C 2 rfl ?_
  refine jj_if C rfl (fun z => ?_) (fun z => ?_)
  · refine jj_go C 1 rfl ?_
    exact jj_iret C rfl rfl rfl (Nat.le_of_ble_eq_true rfl) (Nat.le_of_ble_eq_true rfl) ⟨by rw [px_at_ge (show nI 6 ≤ nI j from z)]; rfl, rfl⟩
  have hlt : j < 6 := Nat.not_le.mp (fun q => z (nI_le q hj))
  rw [px_at_n hlt (by decide)]
  refine jj_go C 1 rfl ?_
  refine jj_getf C rfl fl_MO_30 hy rfl ?_
  refine jj_go C 1 rfl ?_
  refine jj_iald C (n := 6) rfl hcell rfl hlt (by decide) ?_
  refine jj_if C rfl (fun z => ?_) (fun z => ?_)
  · refine jj_go C 1 rfl ?_
    exact jj_iret C rfl rfl rfl (Nat.le_of_ble_eq_true rfl) (Nat.le_of_ble_eq_true rfl) ⟨by rw [decide_eq_true z]; rfl, rfl⟩
  · refine jj_go C 2 rfl ?_
    exact jj_iret C rfl rfl rfl (Nat.le_of_ble_eq_true rfl) (Nat.le_of_ble_eq_true rfl) ⟨by rw [decide_eq_false z]; rfl, rfl⟩
theorem rr_isSlot {x a : Int32} (hR : RR aC h y ad rh sg mu io) : jj_Ct l D aC base yn_MO_isSlot yb_MO_isSlot 3 (some .boolean) 1 0 0 [.ref y, .int x, .int a] h (fun q h' => q = some (.int (jb_I (px_slot (sg 2) x a))) ∧ h' = h) := by
  refine jj_start (tb := tb_MO_isSlot) (by decide) tg_MO_isSlot (Nat.le_of_ble_eq_true rfl) ?_
  intro p e s m args below meth cc C
  have hy := hR.oy
  refine jj_go C 2 rfl ?_
  refine jj_callV C rfl ml_MO_171 wd_1050 hy rfl se_MO_MO_isBean (rr_isBean (x := x) hR) (rest := []) rfl rfl ⟨Nat.le_of_ble_eq_true rfl, Nat.le_of_ble_eq_true rfl⟩ (Nat.le_of_ble_eq_true rfl) (Nat.le_of_ble_eq_true rfl) (Nat.le_of_ble_eq_true rfl) ?_
  rintro q9 h9 ⟨rfl, hh9⟩
  rw [hh9]
  unfold px_slot
  rcases jb_cases (px_at 12 (px_b (sg 2)) x) with ⟨e1, e2⟩ | ⟨e1, e2⟩
  · rw [e1]
    refine jj_if C rfl (fun z => absurd z (by decide)) (fun _ => ?_)
    refine jj_go C 1 rfl ?_
    refine jj_if C rfl (fun z => ?_) (fun z => ?_)
    · refine jj_go C 1 rfl ?_
      exact jj_iret C rfl rfl rfl (Nat.le_of_ble_eq_true rfl) (Nat.le_of_ble_eq_true rfl) ⟨by rw [px_at_neg z]; rfl, rfl⟩
    obtain ⟨j, hj, rfl⟩ := nI_of z
    refine jj_go C 2 rfl ?_
    refine jj_if C rfl (fun z => ?_) (fun z => ?_)
    · refine jj_go C 1 rfl ?_
      exact jj_iret C rfl rfl rfl (Nat.le_of_ble_eq_true rfl) (Nat.le_of_ble_eq_true rfl) ⟨by rw [px_at_ge (show nI 5 ≤ nI j from z)]; rfl, rfl⟩
    have hlt : j < 5 := Nat.not_le.mp (fun q => z (nI_le q hj))
    rw [px_at_n hlt (by decide)]
    refine jj_go C 2 rfl ?_
    exact jj_iret C rfl rfl rfl (Nat.le_of_ble_eq_true rfl) (Nat.le_of_ble_eq_true rfl) ⟨rfl, rfl⟩
  · rw [e1]
    refine jj_if C rfl (fun _ => ?_) (fun z => absurd rfl z)
    refine jj_go C 1 rfl ?_
    exact jj_iret C rfl rfl rfl (Nat.le_of_ble_eq_true rfl) (Nat.le_of_ble_eq_true rfl) ⟨rfl, rfl⟩
theorem rr_set_f {x a v : Int32} (hR : RR aC h y ad rh sg mu io) (hs : px_slot (sg 2) x a = false) : jj_Ct l D aC base yn_MO_set yb_MO_set 4 (some .boolean) 2 0 0 [.ref y, .int x, .int a, .int v] h (fun q h' => q = some (.int 0) ∧ h' = h) := by
  refine jj_start (tb := tb_MO_set) (by decide) tg_MO_set (Nat.le_of_ble_eq_true rfl) ?_
  intro p e s m args below meth cc C
  have hy := hR.oy
  refine jj_go C 3 rfl ?_
  refine jj_callV C rfl ml_MO_175 wd_1046 hy rfl se_MO_MO_isSlot (rr_isSlot (x := x) (a := a) hR) (rest := []) rfl rfl ⟨Nat.le_of_ble_eq_true rfl, Nat.le_of_ble_eq_true rfl⟩ (Nat.le_of_ble_eq_true rfl) (Nat.le_of_ble_eq_true rfl) (Nat.le_of_ble_eq_true rfl) ?_
  rintro q9 h9 ⟨rfl, hh9⟩
  rw [hh9]
  rw [hs]
  refine jj_if C rfl (fun _ => ?_) (fun z => absurd rfl z)
  refine jj_go C 1 rfl ?_
  exact jj_iret C rfl rfl rfl (Nat.le_of_ble_eq_true rfl) (Nat.le_of_ble_eq_true rfl) ⟨rfl, rfl⟩
theorem rr_set_t {b i : Nat} {v : Int32} (hR : RR aC h y ad rh sg mu io) (hb : b < 12) (hi : i < 5) (hs : px_slot (sg 2) (nI b) (nI i) = true) : jj_Ct l D aC base yn_MO_set yb_MO_set 4 (some .boolean) 2 0 0 [.ref y, .int (nI b), .int (nI i), .int v] h (fun q h' => q = some (.int 1) ∧ RR aC h' y ad rh (va_up (va_up sg 4 (upd (sg 4) (5 * b + i) 1)) 3 (upd (sg 3) (5 * b + i) v)) mu io ∧ jj_fr (rr_S y ad) h h') := by
  refine jj_start (tb := tb_MO_set) (by decide) tg_MO_set (Nat.le_of_ble_eq_true rfl) ?_
  intro p e s m args below meth cc C
  have hy := hR.oy
  refine jj_go C 3 rfl ?_
  refine jj_callV C rfl ml_MO_175 wd_1046 hy rfl se_MO_MO_isSlot (rr_isSlot (x := nI b) (a := nI i) hR) (rest := []) rfl rfl ⟨Nat.le_of_ble_eq_true rfl, Nat.le_of_ble_eq_true rfl⟩ (Nat.le_of_ble_eq_true rfl) (Nat.le_of_ble_eq_true rfl) (Nat.le_of_ble_eq_true rfl) ?_
  rintro q9 h9 ⟨rfl, hh9⟩
  rw [hh9]
  rw [hs]
  refine jj_if C rfl (fun z => absurd z (by decide)) (fun _ => ?_)
  refine jj_go C 1 rfl ?_
  refine jj_getf C rfl fl_MO_24 hy rfl ?_
  refine jj_go C 6 rfl ?_
  refine jj_zast C (n := 60) (f := sg 4) rfl (hR.oc (k := 4) (by decide) (by decide) (by decide)) nI_5 (by omega) (by decide) ?_
  have hR1 := hR.set (k := 4) (by decide) (by decide) (by decide) (upd (sg 4) (5 * b + i) 1)
  have hf1 := (jj_fr.rf (h := h) (S := rr_S y ad)).up (a := ad 4) (x := .inl (aC (rr_ty 4), rr_len 4, .inl (upd (sg 4) (5 * b + i) 1))) (Or.inl (rr_S_k (by decide)))
  generalize hh1 : (jj_up h (ad 4) (.inl (aC (rr_ty 4), rr_len 4, .inl (upd (sg 4) (5 * b + i) 1)))) = h1 at hR1 hf1
  refine jj_eq (h' := h1) rfl rfl rfl hh1 ?_
  have hy1 := hR1.oy
  refine jj_go C 1 rfl ?_
  refine jj_getf C rfl fl_MO_21 hy1 rfl ?_
  refine jj_go C 6 rfl ?_
  refine jj_iast C (n := 60) (f := sg 3) rfl (hR1.oc (k := 3) (by decide) (by decide) (by decide)) nI_5 (by omega) (by decide) ?_
  refine jj_go C 1 rfl ?_
  exact jj_iret C rfl rfl rfl (Nat.le_of_ble_eq_true rfl) (Nat.le_of_ble_eq_true rfl) ⟨rfl, hR1.set (k := 3) (by decide) (by decide) (by decide) _, hf1.up (Or.inl (rr_S_k (by decide)))⟩
theorem rr_unset_f {x a : Int32} (hR : RR aC h y ad rh sg mu io) (hs : px_slot (sg 2) x a = false) : jj_Ct l D aC base yn_MO_unset yb_MO_unset 4 (some .boolean) 2 0 0 [.ref y, .int x, .int a] h (fun q h' => q = some (.int 0) ∧ h' = h) := by
  refine jj_start (tb := tb_MO_unset) (by decide) tg_MO_unset (Nat.le_of_ble_eq_true rfl) ?_
  intro p e s m args below meth cc C
  have hy := hR.oy
  refine jj_go C 3 rfl ?_
  refine jj_callV C rfl ml_MO_175 wd_1046 hy rfl se_MO_MO_isSlot (rr_isSlot (x := x) (a := a) hR) (rest := []) rfl rfl ⟨Nat.le_of_ble_eq_true rfl, Nat.le_of_ble_eq_true rfl⟩ (Nat.le_of_ble_eq_true rfl) (Nat.le_of_ble_eq_true rfl) (Nat.le_of_ble_eq_true rfl) ?_
  rintro q9 h9 ⟨rfl, hh9⟩
  rw [hh9]
  rw [hs]
  refine jj_if C rfl (fun _ => ?_) (fun z => absurd rfl z)
  refine jj_go C 1 rfl ?_
  exact jj_iret C rfl rfl rfl (Nat.le_of_ble_eq_true rfl) (Nat.le_of_ble_eq_true rfl) ⟨rfl, rfl⟩
theorem rr_unset_t {b i : Nat} (hR : RR aC h y ad rh sg mu io) (hb : b < 12) (hi : i < 5) (hs : px_slot (sg 2) (nI b) (nI i) = true) (hv : sg 4 (5 * b + i) = 0 ∨ sg 4 (5 * b + i) = 1) : jj_Ct l D aC base yn_MO_unset yb_MO_unset 4 (some .boolean) 2 0 0 [.ref y, .int (nI b), .int (nI i)] h (fun q h' => q = some (.int (sg 4 (5 * b + i))) ∧ RR aC h' y ad rh (va_up sg 4 (upd (sg 4) (5 * b + i) 0)) mu io ∧ jj_fr (rr_S y ad) h h') := by
  refine jj_start (tb := tb_MO_unset) (by decide) tg_MO_unset (Nat.le_of_ble_eq_true rfl) ?_
  intro p e s m args below meth cc C
  have hy := hR.oy
  refine jj_go C 3 rfl ?_
  refine jj_callV C rfl ml_MO_175 wd_1046 hy rfl se_MO_MO_isSlot (rr_isSlot (x := nI b) (a := nI i) hR) (rest := []) rfl rfl ⟨Nat.le_of_ble_eq_true rfl, Nat.le_of_ble_eq_true rfl⟩ (Nat.le_of_ble_eq_true rfl) (Nat.le_of_ble_eq_true rfl) (Nat.le_of_ble_eq_true rfl) ?_
  rintro q9 h9 ⟨rfl, hh9⟩
  rw [hh9]
  rw [hs]
  refine jj_if C rfl (fun z => absurd z (by decide)) (fun _ => ?_)
  refine jj_go C 1 rfl ?_
  refine jj_getf C rfl fl_MO_24 hy rfl ?_
  refine jj_go C 5 rfl ?_
  refine jj_zald C (n := 60) (f := sg 4) rfl (hR.oc (k := 4) (by decide) (by decide) (by decide)) nI_5 (by omega) (by decide) ?_
  refine jj_go C 2 rfl ?_
  refine jj_getf C rfl fl_MO_24 hy rfl ?_
  refine jj_go C 6 rfl ?_
  refine jj_zast C (n := 60) (f := sg 4) rfl (hR.oc (k := 4) (by decide) (by decide) (by decide)) nI_5 (by omega) (by decide) ?_
  refine jj_go C 1 rfl ?_
  exact jj_iret C rfl rfl (by rcases hv with q | q <;> rw [q] <;> rfl) (Nat.le_refl _) (Nat.le_refl _) ⟨rfl, hR.set (k := 4) (by decide) (by decide) (by decide) _, jj_fr.rf.up (Or.inl (rr_S_k (by decide)))⟩
theorem rr_get_f {x a : Int32} (hR : RR aC h y ad rh sg mu io) (hs : px_slot (sg 2) x a = false) : jj_Ct l D aC base yn_MO_get yb_MO_get 3 (some .int) 2 0 0 [.ref y, .int x, .int a] h (fun q h' => q = some (.int 0) ∧ h' = h) := by
  refine jj_start (tb := tb_MO_get) (by decide) tg_MO_get (Nat.le_of_ble_eq_true rfl) ?_
  intro p e s m args below meth cc C
  have hy := hR.oy
  refine jj_go C 3 rfl ?_
  refine jj_callV C rfl ml_MO_175 wd_1046 hy rfl se_MO_MO_isSlot (rr_isSlot (x := x) (a := a) hR) (rest := []) rfl rfl ⟨Nat.le_of_ble_eq_true rfl, Nat.le_of_ble_eq_true rfl⟩ (Nat.le_of_ble_eq_true rfl) (Nat.le_of_ble_eq_true rfl) (Nat.le_of_ble_eq_true rfl) ?_
  rintro q9 h9 ⟨rfl, hh9⟩
  rw [hh9]
  rw [hs]
  refine jj_if C rfl (fun _ => ?_) (fun z => absurd rfl z)
  refine jj_go C 1 rfl ?_
  exact jj_iret C rfl rfl rfl (Nat.le_of_ble_eq_true rfl) (Nat.le_of_ble_eq_true rfl) ⟨rfl, rfl⟩
theorem rr_get_t {b i : Nat} (hR : RR aC h y ad rh sg mu io) (hb : b < 12) (hi : i < 5) (hs : px_slot (sg 2) (nI b) (nI i) = true) : jj_Ct l D aC base yn_MO_get yb_MO_get 3 (some .int) 2 0 0 [.ref y, .int (nI b), .int (nI i)] h (fun q h' => q = some (.int (if sg 4 (5 * b + i) = 0 then 0 else sg 3 (5 * b + i))) ∧ h' = h) := by
  refine jj_start (tb := tb_MO_get) (by decide) tg_MO_get (Nat.le_of_ble_eq_true rfl) ?_
  intro p e s m args below meth cc C
  have hy := hR.oy
  refine jj_go C 3 rfl ?_
  refine jj_callV C rfl ml_MO_175 wd_1046 hy rfl se_MO_MO_isSlot (rr_isSlot (x := nI b) (a := nI i) hR) (rest := []) rfl rfl ⟨Nat.le_of_ble_eq_true rfl, Nat.le_of_ble_eq_true rfl⟩ (Nat.le_of_ble_eq_true rfl) (Nat.le_of_ble_eq_true rfl) (Nat.le_of_ble_eq_true rfl) ?_
  rintro q9 h9 ⟨rfl, hh9⟩
  rw [hh9]
  rw [hs]
  refine jj_if C rfl (fun z => absurd z (by decide)) (fun _ => ?_)
  refine jj_go C 1 rfl ?_
  refine jj_getf C rfl fl_MO_24 hy rfl ?_
  refine jj_go C 5 rfl ?_
  refine jj_zald C (n := 60) (f := sg 4) rfl (hR.oc (k := 4) (by decide) (by decide) (by decide)) nI_5 (by omega) (by decide) ?_
  refine jj_if C rfl (fun z => ?_) (fun z => ?_)
  · refine jj_go C 1 rfl ?_
    exact jj_iret C rfl rfl rfl (Nat.le_of_ble_eq_true rfl) (Nat.le_of_ble_eq_true rfl) ⟨by rw [if_pos z], rfl⟩
  · refine jj_go C 1 rfl ?_
    refine jj_getf C rfl fl_MO_21 hy rfl ?_
    refine jj_go C 5 rfl ?_
    refine jj_iald C (n := 60) (f := sg 3) rfl (hR.oc (k := 3) (by decide) (by decide) (by decide)) nI_5 (by omega) (by decide) ?_
    refine jj_go C 1 rfl ?_
    exact jj_iret C rfl rfl rfl (Nat.le_of_ble_eq_true rfl) (Nat.le_of_ble_eq_true rfl) ⟨by rw [if_neg z], rfl⟩
theorem rr_beanWith {r : Nat} (hR : RR aC h y ad rh sg mu io) (hr : r < 34) : jj_Ct l D aC base yn_MO_beanWith yb_MO_beanWith 3 (some .int) 2 0 0 [.ref y, .int (nI r)] h (fun q h' => q = some (.int (px_oi (px_bw (sg 2) rh (rh r) 12 0))) ∧ h' = h) := by
  refine jj_start (tb := tb_MO_beanWith) (by decide) tg_MO_beanWith (Nat.le_of_ble_eq_true rfl) ?_
  intro p e s m args below meth cc C
  have hy := hR.oy
  have hcell := hR.oc (k := 2) (by decide) (by decide) (by decide)
  have loop : ∀ (k j : Nat) (v : Int32), v = nI j → j + k = 12 → px_bw (sg 2) rh (rh r) k j = px_bw (sg 2) rh (rh r) 12 0 → jj_J p l e (jj_rm 2 0 0) s m args below meth cc D base 3 (MQ below (jj_Q D base (fun q h' => q = some (.int (px_oi (px_bw (sg 2) rh (rh r) 12 0))) ∧ h' = h)) args s 0 0 (jj_A base)) 2 [(0, .ref y), (1, .int (nI r)), (2, .int v)] [] h 0 0 := by
    intro k
    induction k with
    | zero =>
      intro j v hv hk hg
      refine jj_go C 2 rfl ?_
      refine jj_if C rfl (fun _ => ?_) (fun z => absurd (by rw [hv]; exact nI_le (a := 12) (by omega) (by omega)) z)
      refine jj_go C 1 rfl ?_
      exact jj_iret C rfl rfl rfl (Nat.le_of_ble_eq_true rfl) (Nat.le_of_ble_eq_true rfl) ⟨by rw [← hg]; rfl, rfl⟩
    | succ k ih =>
      intro j v hv hk hg
      have hlt : j < 12 := by omega
      have hg : (if ¬ sg 2 j = 0 ∧ rh j = rh r then some j else px_bw (sg 2) rh (rh r) k (j + 1)) = px_bw (sg 2) rh (rh r) 12 0 := hg
      have next : ¬ (¬ sg 2 j = 0 ∧ rh j = rh r) → jj_J p l e (jj_rm 2 0 0) s m args below meth cc D base 3 (MQ below (jj_Q D base (fun q h' => q = some (.int (px_oi (px_bw (sg 2) rh (rh r) 12 0))) ∧ h' = h)) args s 0 0 (jj_A base)) 28 [(0, .ref y), (1, .int (nI r)), (2, .int v)] [] h 0 0 := by
        intro hno
        rw [if_neg hno] at hg
        refine jj_go C 2 rfl ?_
        exact ih (j + 1) (v + 1) (by rw [hv, nI_1]) (by omega) hg
      refine jj_go C 2 rfl ?_
      refine jj_if C rfl (fun z => absurd z (by rw [hv]; exact nI_ge (b := 12) hlt (by decide))) (fun _ => ?_)
      refine jj_go C 1 rfl ?_
      refine jj_getf C rfl fl_MO_17 hy rfl ?_
      refine jj_go C 1 rfl ?_
      refine jj_zald C (n := 12) rfl hcell hv hlt (by decide) ?_
      refine jj_if C rfl (fun z => next (fun q => q.1 z)) (fun z => ?_)
      refine jj_go C 3 rfl ?_
      subst hv
      refine jj_callV C rfl ml_MO_132 wd_1025 hy rfl se_MO_MO_same (mo_same (r1 := j) (r2 := r) hR.oT (by omega) hr) (rest := []) rfl rfl ⟨Nat.le_of_ble_eq_true rfl, Nat.le_of_ble_eq_true rfl⟩ (Nat.le_of_ble_eq_true rfl) (Nat.le_of_ble_eq_true rfl) (Nat.le_of_ble_eq_true rfl) ?_
      rintro q9 h9 ⟨rfl, hh9⟩
      rw [hh9]
      by_cases he : rh j = rh r
      · rw [decide_eq_true he]
        rw [if_pos ⟨z, he⟩] at hg
        refine jj_if C rfl (fun z => absurd z (by decide)) (fun _ => ?_)
        refine jj_go C 1 rfl ?_
        exact jj_iret C rfl rfl rfl (Nat.le_of_ble_eq_true rfl) (Nat.le_of_ble_eq_true rfl) ⟨by rw [← hg]; rfl, rfl⟩
      · rw [decide_eq_false he]
        exact jj_if C rfl (fun _ => next (fun q => he q.2)) (fun z => absurd rfl z)
  refine jj_go C 2 rfl ?_
  exact loop 12 0 0 nI_0.symm (by omega) rfl
theorem rr_cancel_f {x : Int32} (hR : RR aC h y ad rh sg mu io) (hs : px_at 6 (fun j => !(decide (sg 6 j ≤ 0))) x = false) : jj_Ct l D aC base yn_MO_cancel yb_MO_cancel 2 (some .boolean) 1 0 0 [.ref y, .int x] h (fun q h' => q = some (.int 0) ∧ h' = h) := by
  refine jj_start (tb := tb_MO_cancel) (by decide) tg_MO_cancel (Nat.le_of_ble_eq_true rfl) ?_
  intro p e s m args below meth cc C
  have hy := hR.oy
  refine jj_go C 2 rfl ?_
  refine jj_callV C rfl ml_MO_260 wd_1196 hy rfl se_MO_MO_isMonitor (rr_isMonitor (x := x) hR) (rest := []) rfl rfl ⟨Nat.le_of_ble_eq_true rfl, Nat.le_of_ble_eq_true rfl⟩ (Nat.le_of_ble_eq_true rfl) (Nat.le_of_ble_eq_true rfl) (Nat.le_of_ble_eq_true rfl) ?_
  rintro q9 h9 ⟨rfl, hh9⟩
  rw [hh9]
  rw [hs]
  refine jj_if C rfl (fun _ => ?_) (fun z => absurd rfl z)
  refine jj_go C 1 rfl ?_
  exact jj_iret C rfl rfl rfl (Nat.le_of_ble_eq_true rfl) (Nat.le_of_ble_eq_true rfl) ⟨rfl, rfl⟩
theorem rr_cancel_t {j : Nat} (hR : RR aC h y ad rh sg mu io) (hj : j < 6) (hs : ¬ sg 6 j ≤ 0) : jj_Ct l D aC base yn_MO_cancel yb_MO_cancel 2 (some .boolean) 1 0 0 [.ref y, .int (nI j)] h (fun q h' => q = some (.int 1) ∧ RR aC h' y ad rh (va_up sg 6 (upd (sg 6) j 0)) mu io ∧ jj_fr (rr_S y ad) h h') := by
  refine jj_start (tb := tb_MO_cancel) (by decide) tg_MO_cancel (Nat.le_of_ble_eq_true rfl) ?_
  intro p e s m args below meth cc C
  have hy := hR.oy
  refine jj_go C 2 rfl ?_
  refine jj_callV C rfl ml_MO_260 wd_1196 hy rfl se_MO_MO_isMonitor (rr_isMonitor (x := nI j) hR) (rest := []) rfl rfl ⟨Nat.le_of_ble_eq_true rfl, Nat.le_of_ble_eq_true rfl⟩ (Nat.le_of_ble_eq_true rfl) (Nat.le_of_ble_eq_true rfl) (Nat.le_of_ble_eq_true rfl) ?_
  rintro q9 h9 ⟨rfl, hh9⟩
  rw [hh9]
  rw [px_at_n hj (by decide), decide_eq_false hs]
  refine jj_if C rfl (fun z => absurd z (by decide)) (fun _ => ?_)
  refine jj_go C 1 rfl ?_
  refine jj_getf C rfl fl_MO_30 hy rfl ?_
  refine jj_go C 2 rfl ?_
  refine jj_iast C (n := 6) (f := sg 6) rfl (hR.oc (k := 6) (by decide) (by decide) (by decide)) rfl hj (by decide) ?_
  refine jj_go C 1 rfl ?_
  exact jj_iret C rfl rfl rfl (Nat.le_of_ble_eq_true rfl) (Nat.le_of_ble_eq_true rfl) ⟨rfl, hR.set (k := 6) (by decide) (by decide) (by decide) _, jj_fr.rf.up (Or.inl (rr_S_k (by decide)))⟩
theorem rr_mark_f {x : Int32} (hR : RR aC h y ad rh sg mu io) (hs : px_at 6 (fun j => !(decide (sg 6 j ≤ 0))) x = false) : jj_Ct l D aC base yn_MO_mark yb_MO_mark 2 (some .long) 1 0 0 [.ref y, .int x] h (fun q h' => q = some (.long 0) ∧ h' = h) := by
  refine jj_start (tb := tb_MO_mark) (by decide) tg_MO_mark (Nat.le_of_ble_eq_true rfl) ?_
  intro p e s m args below meth cc C
  have hy := hR.oy
  refine jj_go C 2 rfl ?_
  refine jj_callV C rfl ml_MO_260 wd_1196 hy rfl se_MO_MO_isMonitor (rr_isMonitor (x := x) hR) (rest := []) rfl rfl ⟨Nat.le_of_ble_eq_true rfl, Nat.le_of_ble_eq_true rfl⟩ (Nat.le_of_ble_eq_true rfl) (Nat.le_of_ble_eq_true rfl) (Nat.le_of_ble_eq_true rfl) ?_
  rintro q9 h9 ⟨rfl, hh9⟩
  rw [hh9]
  rw [hs]
  refine jj_if C rfl (fun _ => ?_) (fun z => absurd rfl z)
  refine jj_go C 1 rfl ?_
  exact jj_lret C rfl rfl (Nat.le_refl _) (Nat.le_refl _) ⟨rfl, rfl⟩
theorem rr_mark_t {j : Nat} (hR : RR aC h y ad rh sg mu io) (hj : j < 6) (hs : ¬ sg 6 j ≤ 0) : jj_Ct l D aC base yn_MO_mark yb_MO_mark 2 (some .long) 1 0 0 [.ref y, .int (nI j)] h (fun q h' => q = some (.long (mu j)) ∧ h' = h) := by
  refine jj_start (tb := tb_MO_mark) (by decide) tg_MO_mark (Nat.le_of_ble_eq_true rfl) ?_
  intro p e s m args below meth cc C
  have hy := hR.oy
  refine jj_go C 2 rfl ?_
  refine jj_callV C rfl ml_MO_260 wd_1196 hy rfl se_MO_MO_isMonitor (rr_isMonitor (x := nI j) hR) (rest := []) rfl rfl ⟨Nat.le_of_ble_eq_true rfl, Nat.le_of_ble_eq_true rfl⟩ (Nat.le_of_ble_eq_true rfl) (Nat.le_of_ble_eq_true rfl) (Nat.le_of_ble_eq_true rfl) ?_
  rintro q9 h9 ⟨rfl, hh9⟩
  rw [hh9]
  rw [px_at_n hj (by decide), decide_eq_false hs]
  refine jj_if C rfl (fun z => absurd z (by decide)) (fun _ => ?_)
  refine jj_go C 1 rfl ?_
  refine jj_getf C rfl fl_MO_42 hy rfl ?_
  refine jj_go C 1 rfl ?_
  refine jj_lald C (n := 6) (f := mu) rfl hR.om rfl hj (by decide) ?_
  refine jj_go C 1 rfl ?_
  exact jj_lret C rfl rfl (Nat.le_refl _) (Nat.le_refl _) ⟨rfl, rfl⟩
theorem rr_listen {x : Int32} (hR : RR aC h y ad rh sg mu io) : jj_Ct l D aC base yn_MO_listen yb_MO_listen 2 (some .int) 0 0 0 [.ref y, .int x] h (fun q h' => q = some (.int (io 15)) ∧ RR aC h' y ad rh sg mu (upd io 16 x) ∧ jj_fr (rr_S y ad) h h') := by
  refine jj_start (tb := tb_MO_listen) (by decide) tg_MO_listen (Nat.le_of_ble_eq_true rfl) ?_
  intro p e s m args below meth cc C
  have hy := hR.oy
  refine jj_go C 2 rfl ?_
  refine jj_putf C rfl fl_MO_58 hy rfl rfl (Nat.le_of_ble_eq_true rfl) ?_
  have hR1 : RR aC (jj_up h y (.inr (9, (rr_fs ad io).set 16 (.int x)))) y ad rh sg mu (upd io 16 x) := hR.put rfl
  have hy1 := hR1.oy
  refine jj_go C 1 rfl ?_
  refine jj_getf C rfl fl_MO_151 hy1 rfl ?_
  exact jj_iret C rfl rfl rfl (Nat.le_of_ble_eq_true rfl) (Nat.le_of_ble_eq_true rfl) ⟨rfl, hR1, jj_fr.rf.up (Or.inl rr_S_y)⟩
theorem rr_selected {x : Int32} (hR : RR aC h y ad rh sg mu io) {n : Nat} (hn : io 19 = nI n) (hn2 : n ≤ 12) : jj_Ct l D aC base yn_MO_selected yb_MO_selected 2 (some .int) 0 0 0 [.ref y, .int x] h (fun q h' => q = some (.int (if px_at n (fun _ => true) x = true then sg 20 x.toNatClampNeg else -2)) ∧ h' = h) := by
  refine jj_start (tb := tb_MO_selected) (by decide) tg_MO_selected (Nat.le_of_ble_eq_true rfl) ?_
  intro p e s m args below meth cc C
  have hy := hR.oy
  refine jj_go C 1 rfl ?_
  refine jj_if C rfl (fun z => ?_) (fun z => ?_)
  · refine jj_go C 2 rfl ?_
    exact jj_iret C rfl rfl rfl (Nat.le_of_ble_eq_true rfl) (Nat.le_of_ble_eq_true rfl) ⟨by rw [px_at_neg z]; rfl, rfl⟩
  obtain ⟨j, hj, rfl⟩ := nI_of z
  refine jj_go C 2 rfl ?_
  refine jj_getf C rfl fl_MO_250 hy rfl ?_
  refine jj_top hn ?_
  refine jj_if C rfl (fun z => ?_) (fun z => ?_)
  · have hlt := (nI_ltI hj (by omega)).mp z
    rw [px_at_n hlt (by omega), nI_clamp hj]
    refine jj_go C 1 rfl ?_
    refine jj_getf C rfl fl_MO_65 hy rfl ?_
    refine jj_go C 1 rfl ?_
    refine jj_iald C (n := 12) (f := sg 20) rfl (hR.oc (k := 20) (by decide) (by decide) (by decide)) rfl (by omega) (by decide) ?_
    exact jj_iret C rfl rfl rfl (Nat.le_of_ble_eq_true rfl) (Nat.le_of_ble_eq_true rfl) ⟨rfl, rfl⟩
  · have hge : n ≤ j := Nat.not_lt.mp (fun q => z ((nI_ltI hj (by omega)).mpr q))
    refine jj_go C 2 rfl ?_
    exact jj_iret C rfl rfl rfl (Nat.le_of_ble_eq_true rfl) (Nat.le_of_ble_eq_true rfl) ⟨by rw [px_at_ge (nI_le hge hj)]; rfl, rfl⟩
theorem rr_notice {x w : Int32} (hR : RR aC h y ad rh sg mu io) {n : Nat} (hn : io 17 = nI n) (hn2 : n ≤ 16) : jj_Ct l D aC base yn_MO_notice yb_MO_notice 3 (some .int) 0 0 0 [.ref y, .int x, .int w] h (fun q h' => q = some (.int (if px_at n (fun _ => true) x = true ∧ px_at 4 (fun _ => true) w = true then sg 18 (4 * x.toNatClampNeg + w.toNatClampNeg) else -2)) ∧ h' = h) := by
  refine jj_start (tb := tb_MO_notice) (by decide) tg_MO_notice (Nat.le_of_ble_eq_true rfl) ?_
  intro p e s m args below meth cc C
  have hy := hR.oy
  have no : ¬ (px_at n (fun _ => true) x = true ∧ px_at 4 (fun _ => true) w = true) → jj_J p l e (jj_rm 0 0 0) s m args below meth cc D base 3 (MQ below (jj_Q D base (fun q h' => q = some (.int (if px_at n (fun _ => true) x = true ∧ px_at 4 (fun _ => true) w = true then sg 18 (4 * x.toNatClampNeg + w.toNatClampNeg) else -2)) ∧ h' = h)) args s 0 0 (jj_A base)) 21 [(0, .ref y), (1, .int x), (2, .int w)] [] h 0 0 := by
    intro hno
    refine jj_go C 2 rfl ?_
    exact jj_iret C rfl rfl rfl (Nat.le_of_ble_eq_true rfl) (Nat.le_of_ble_eq_true rfl) ⟨by rw [if_neg hno], rfl⟩
  refine jj_go C 1 rfl ?_
  refine jj_if C rfl (fun z => no (fun q => by rw [px_at_neg z] at q; cases q.1)) (fun z => ?_)
  obtain ⟨j, hj, rfl⟩ := nI_of z
  refine jj_go C 2 rfl ?_
  refine jj_getf C rfl fl_MO_154 hy rfl ?_
  refine jj_top hn ?_
  refine jj_if C rfl (fun z => no (fun q => by rw [px_at_ge z] at q; cases q.1)) (fun z => ?_)
  have hlt : j < n := Nat.not_le.mp (fun q => z (nI_le q hj))
  refine jj_go C 1 rfl ?_
  refine jj_if C rfl (fun z => no (fun q => by rw [px_at_neg z] at q; cases q.2)) (fun z => ?_)
  obtain ⟨i, hi, rfl⟩ := nI_of z
  refine jj_go C 2 rfl ?_
  refine jj_if C rfl (fun z => ?_) (fun z => ?_)
  · have hi4 : i ≤ 3 := (nI_leI (a := i) (b := 3) hi (by decide)).mp z
    rw [if_pos ⟨px_at_n hlt (by omega), px_at_n (by omega) (by decide)⟩, nI_clamp hj, nI_clamp hi]
    refine jj_go C 1 rfl ?_
    refine jj_getf C rfl fl_MO_62 hy rfl ?_
    refine jj_go C 5 rfl ?_
    refine jj_iald C (n := 64) (f := sg 18) rfl (hR.oc (k := 18) (by decide) (by decide) (by decide)) nI_4 (by omega) (by decide) ?_
    exact jj_iret C rfl rfl rfl (Nat.le_of_ble_eq_true rfl) (Nat.le_of_ble_eq_true rfl) ⟨rfl, rfl⟩
  · have hi4 : ¬ i ≤ 3 := fun q => z ((nI_leI (a := i) (b := 3) hi (by decide)).mpr q)
    exact no (fun q => by rw [px_at_ge (show nI 4 ≤ nI i from nI_le (by omega) hi)] at q; cases q.2)
end MB
