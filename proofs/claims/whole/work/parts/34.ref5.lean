/-! The reference: reads -/
theorem px_col_58 : ∀ t : List Nat, px_col t < t.length → t.getD (px_col t) 0 = 58
  | [], h => absurd h (Nat.not_lt_zero _)
  | c :: r, h => by
    unfold px_col at h ⊢
    by_cases hc : c = 58
    · rw [if_pos hc]
      simpa using hc
    · rw [if_neg hc] at h ⊢
      simpa using px_col_58 r (by simpa using h)
theorem px_col_no : ∀ (t : List Nat) (i : Nat), i < px_col t → ¬ t.getD i 0 = 58
  | [], i, h => absurd h (Nat.not_lt_zero _)
  | c :: r, i, h => by
    unfold px_col at h
    by_cases hc : c = 58
    · rw [if_pos hc] at h
      exact absurd h (Nat.not_lt_zero _)
    · rw [if_neg hc] at h
      cases i with
      | zero => simpa using hc
      | succ i => simpa using px_col_no r i (by omega)
/-- is a text a pattern (w), a name (not w)? -/
def px_rd (t : List Nat) (w : Bool) : Bool := Nat.blt (px_col t) t.length && (Nat.ble (px_col t) 6 && ((w || Nat.ble 1 (px_col t)) && (px_re t w 0 == px_col t && (px_ls t w 60 (px_col t + 1) (fun _ => none)).1)))
theorem px_rd_i {t : List Nat} {w : Bool} : px_rd t w = true ↔ px_col t < t.length ∧ px_col t ≤ 6 ∧ (w = true ∨ 1 ≤ px_col t) ∧ px_re t w 0 = px_col t ∧ (px_ls t w 60 (px_col t + 1) (fun _ => none)).1 = true := by
  unfold px_rd
  simp only [Bool.and_eq_true, Bool.or_eq_true, Nat.ble_eq, beq_iff_eq, Nat.blt, Nat.succ_le]
theorem upd_same {f : Nat → Int32} {k : Nat} : upd f k (f k) = f := by
  funext j
  unfold upd
  split
  next q => rw [q]
  next => rfl
theorem jb_nar {b : Bool} : narrow .boolean (.int (jb_I b)) = .int (jb_I b) := by cases b <;> rfl
section MR
variable {l : Launch} {D : va_G} {aC : Nat → ClassId} {base : Nat} {h : jjHp} {y : Nat} {ad : Nat → Nat} {rh : Nat → List Nat} {sg : Nat → Nat → Int32} {mu : Nat → Int64} {io : Nat → Int32}
theorem rr_reads {r : Nat} {w : Bool} (hR : RR aC h y ad rh sg mu io) (hr : r < 34) : jj_Ct l D aC base yn_MO_reads yb_MO_reads 5 (some .boolean) 3 0 0 [.ref y, .int (nI r), .int (jb_I w)] h (fun q h' => q = some (.int (jb_I (px_rd (rh r) w))) ∧ ∃ W o, RR aC h' y ad rh (va_up sg 21 W) mu (upd io 22 o) ∧ jj_fr (rr_S y ad) h h' ∧ (px_rd (rh r) w = true → px_w W (px_ls (rh r) w 60 (px_col (rh r) + 1) (fun _ => none)).2.1 ∧ o = jb_I (px_ls (rh r) w 60 (px_col (rh r) + 1) (fun _ => none)).2.2)) := by
  obtain ⟨hlen, hch⟩ := hR.len hr
  have hcl := px_col_le (rh r)
  refine jj_start (tb := tb_MO_reads) (by decide) tg_MO_reads (Nat.le_of_ble_eq_true rfl) ?_
  intro p e s m args below meth cc C
  obtain ⟨hy, f0, f1, hne, L, S, g0, g1, hRR⟩ := hR.oT
  have r1 := (hRR r hr).1
  have nof : px_rd (rh r) w = false → ∃ W o, RR aC h y ad rh (va_up sg 21 W) mu (upd io 22 o) ∧ jj_fr (rr_S y ad) h h ∧ (px_rd (rh r) w = true → px_w W (px_ls (rh r) w 60 (px_col (rh r) + 1) (fun _ => none)).2.1 ∧ o = jb_I (px_ls (rh r) w 60 (px_col (rh r) + 1) (fun _ => none)).2.2) := fun hq => ⟨sg 21, io 22, by rw [rr_up_same, upd_same]; exact hR, jj_fr.rf, fun q => by rw [hq] at q; cases q⟩
  have no : px_rd (rh r) w = false → jj_J p l e (jj_rm 3 0 0) s m args below meth cc D base 5 (MQ below (jj_Q D base (fun q h' => q = some (.int (jb_I (px_rd (rh r) w))) ∧ ∃ W o, RR aC h' y ad rh (va_up sg 21 W) mu (upd io 22 o) ∧ jj_fr (rr_S y ad) h h' ∧ (px_rd (rh r) w = true → px_w W (px_ls (rh r) w 60 (px_col (rh r) + 1) (fun _ => none)).2.1 ∧ o = jb_I (px_ls (rh r) w 60 (px_col (rh r) + 1) (fun _ => none)).2.2))) args s 0 0 (jj_A base)) 35 [(0, .ref y), (1, .int (nI r)), (2, .int (jb_I w)), (3, .int (nI (px_col (rh r))))] [] h 0 0 := by
    intro hq
    refine jj_go C 1 rfl ?_
    exact jj_iret C rfl rfl rfl (Nat.le_of_ble_eq_true rfl) (Nat.le_of_ble_eq_true rfl) ⟨by rw [hq]; rfl, nof hq⟩
  have loop : (px_col (rh r) < (rh r).length ∧ px_col (rh r) ≤ 6 ∧ (w = true ∨ 1 ≤ px_col (rh r))) → ∀ (k j : Nat) (v : Int32), v = nI j → j + k = px_col (rh r) → (∀ i, i < j → pc_al ((rh r).getD i 0) w = true) → jj_J p l e (jj_rm 3 0 0) s m args below meth cc D base 5 (MQ below (jj_Q D base (fun q h' => q = some (.int (jb_I (px_rd (rh r) w))) ∧ ∃ W o, RR aC h' y ad rh (va_up sg 21 W) mu (upd io 22 o) ∧ jj_fr (rr_S y ad) h h' ∧ (px_rd (rh r) w = true → px_w W (px_ls (rh r) w 60 (px_col (rh r) + 1) (fun _ => none)).2.1 ∧ o = jb_I (px_ls (rh r) w 60 (px_col (rh r) + 1) (fun _ => none)).2.2))) args s 0 0 (jj_A base)) 40 [(0, .ref y), (1, .int (nI r)), (2, .int (jb_I w)), (3, .int (nI (px_col (rh r)))), (4, .int v)] [] h 0 0 := by
    intro hc k
    induction k with
    | zero =>
      intro j v hv hk hal
      have hj : j = px_col (rh r) := by omega
      subst hj
      refine jj_go C 2 rfl ?_
      refine jj_if C rfl (fun _ => ?_) (fun z => absurd (by rw [hv]; exact nI_le (Nat.le_refl _) (by omega)) z)
      refine jj_go C 6 rfl ?_
      have hre : px_re (rh r) w 0 = px_col (rh r) := px_re_eq (Nat.zero_le _) (fun i _ hi => ⟨by omega, hal i hi⟩) hcl (Or.inr (by rw [px_col_58 _ hc.1]; cases w <;> rfl))
      have hrd : px_rd (rh r) w = (px_ls (rh r) w 60 (px_col (rh r) + 1) (fun _ => none)).1 := by
        rw [Bool.eq_iff_iff, px_rd_i]
        exact ⟨fun q => q.2.2.2.2, fun q => ⟨hc.1, hc.2.1, hc.2.2, hre, q⟩⟩
      refine jj_callV C rfl ml_MO_114 wd_1009 hy rfl se_MO_MO_list (As := [.int (nI r), .int (nI (px_col (rh r) + 1)), .int (jb_I w)]) (rr_list (p0 := px_col (rh r) + 1) (w := w) hR hr (by omega)) (rest := []) (by rw [← nI_1]; rfl) rfl ⟨(Nat.le_of_ble_eq_true rfl), (Nat.le_of_ble_eq_true rfl)⟩ (Nat.le_of_ble_eq_true rfl) (Nat.le_of_ble_eq_true rfl) (Nat.le_of_ble_eq_true rfl) ?_
      rintro q9 h9 ⟨W, rfl, hw, hR9, hf9⟩
      exact jj_iret C rfl rfl jb_nar (Nat.le_refl _) (Nat.le_refl _) ⟨by rw [hrd], W, _, hR9, hf9, fun _ => ⟨hw, rfl⟩⟩
    | succ k ih =>
      intro j v hv hk hal
      have hlt : j < px_col (rh r) := by omega
      refine jj_go C 2 rfl ?_
      refine jj_if C rfl (fun z => absurd z (by rw [hv]; exact nI_ge hlt (by omega))) (fun _ => ?_)
      refine jj_go C 3 rfl ?_
      refine jj_callV C rfl ml_MO_83 wd_988 hy rfl se_MO_MO_get1 (rr_get1 (x := v) hR hr) (rest := []) rfl rfl ⟨Nat.le_of_ble_eq_true rfl, Nat.le_of_ble_eq_true rfl⟩ (Nat.le_of_ble_eq_true rfl) (Nat.le_of_ble_eq_true rfl) (Nat.le_of_ble_eq_true rfl) ?_
      rintro q9 h9 ⟨rfl, hh9⟩
      rw [hh9]
      have eg : jr_g (rh r) v = (rh r).getD j 0 := by rw [hv, jr_g_n (by omega)]
      rw [eg]
      have hcj := hch j
      refine jj_go C 1 rfl ?_
      refine jj_callS C rfl ml_MO_106 wd_999 (mo_allowed (c := (rh r).getD j 0) (w := w) (by omega)) (rest := []) rfl rfl ⟨Nat.le_of_ble_eq_true rfl, Nat.le_of_ble_eq_true rfl⟩ (Nat.le_of_ble_eq_true rfl) (Nat.le_of_ble_eq_true rfl) (Nat.le_of_ble_eq_true rfl) ?_
      rintro q9 h9 ⟨rfl, hh9⟩
      rw [hh9]
      rcases jb_cases (pc_al ((rh r).getD j 0) w) with ⟨e1, e2⟩ | ⟨e1, e2⟩
      · rw [e2]
        refine jj_if C rfl (fun z => absurd z (by decide)) (fun _ => ?_)
        refine jj_go C 2 rfl ?_
        exact ih (j + 1) (v + 1) (by rw [hv, nI_1]) (by omega) (lt_s hal e1)
      · rw [e2]
        refine jj_if C rfl (fun _ => ?_) (fun z => absurd rfl z)
        have hq : px_rd (rh r) w = false := by
          rw [Bool.eq_false_iff]
          intro q
          have q := (px_rd_i.mp q).2.2.2.1
          have := (px_re_al (t := rh r) (w := w) (q := 0) (Nat.zero_le j) (by rw [q]; exact hlt)).2
          rw [e1] at this
          cases this
        refine jj_go C 1 rfl ?_
        exact jj_iret C rfl rfl rfl (Nat.le_of_ble_eq_true rfl) (Nat.le_of_ble_eq_true rfl) ⟨by rw [hq]; rfl, nof hq⟩
  refine jj_go C 2 rfl ?_
  refine jj_callV C rfl ml_MO_110 wd_996 hy rfl se_MO_MO_colon (mo_colon hR.oT hr) (rest := []) rfl rfl ⟨Nat.le_of_ble_eq_true rfl, Nat.le_of_ble_eq_true rfl⟩ (Nat.le_of_ble_eq_true rfl) (Nat.le_of_ble_eq_true rfl) (Nat.le_of_ble_eq_true rfl) ?_
  rintro q9 h9 ⟨rfl, hh9⟩
  rw [hh9]
  refine jj_go C 3 rfl ?_
  refine jj_getf C rfl fl_MO_13 hy f1 ?_
  refine jj_go C 1 rfl ?_
  refine jj_iald C rfl g1 rfl hr (by decide) ?_
  refine jj_top r1 ?_
  refine jj_if C rfl (fun z => ?_) (fun z => ?_)
  · have g := (nI_eq (a := px_col (rh r)) (b := (rh r).length) (by omega) (by omega)).mp z
    exact no (by rw [Bool.eq_false_iff]; intro q; have := (px_rd_i.mp q).1; omega)
  have g : ¬ px_col (rh r) = (rh r).length := fun q => z (by rw [q])
  refine jj_go C 2 rfl ?_
  refine jj_if C rfl (fun z => ?_) (fun z => ?_)
  · have g6 := (nI_ltI (a := 6) (b := px_col (rh r)) (by decide) (by omega)).mp z
    exact no (by rw [Bool.eq_false_iff]; intro q; have := (px_rd_i.mp q).2.1; omega)
  have g6 : ¬ 6 < px_col (rh r) := fun q => z ((nI_ltI (a := 6) (b := px_col (rh r)) (by decide) (by omega)).mpr q)
  refine jj_go C 2 rfl ?_
  rcases jb_cases w with ⟨w1, w2⟩ | ⟨w1, w2⟩
  · refine jj_if C rfl (fun z => absurd (w2.symm.trans z) (by decide)) (fun _ => ?_)
    refine jj_go C 2 rfl ?_
    refine jj_if C rfl (fun _ => ?_) (fun z => absurd (nI_pos' (by omega)) z)
    refine jj_go C 2 rfl ?_
    exact loop ⟨by omega, by omega, Or.inl w1⟩ (px_col (rh r)) 0 0 nI_0.symm (by omega) (fun i hi => absurd hi (Nat.not_lt_zero _))
  · refine jj_if C rfl (fun _ => ?_) (fun z => absurd w2 z)
    refine jj_go C 1 rfl ?_
    refine jj_if C rfl (fun z => ?_) (fun z => ?_)
    · have g1 := (nI_leI (a := 1) (b := px_col (rh r)) (by decide) (by omega)).mp z
      refine jj_go C 2 rfl ?_
      exact loop ⟨by omega, by omega, Or.inr g1⟩ (px_col (rh r)) 0 0 nI_0.symm (by omega) (fun i hi => absurd hi (Nat.not_lt_zero _))
    · have g1 : ¬ 1 ≤ px_col (rh r) := fun q => z ((nI_leI (a := 1) (b := px_col (rh r)) (by decide) (by omega)).mpr q)
      refine no (by rw [Bool.eq_false_iff]; intro q; have := (px_rd_i.mp q).2.2.1; rw [w1] at this; rcases this with q | q; cases q; omega)
end MR
