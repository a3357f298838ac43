/-! The class: beanAt, queryAt, monitorAt, beanNamed, freeBean; write -/
def bs_at (f : Nat → Option Nat) (n : Nat) (x : Int32) : Option Nat := if x < 0 then none else if nI n ≤ x then none else f x.toNatClampNeg
theorem bs_at_n {f : Nat → Option Nat} {n j : Nat} (hj : j < n) (hn : n < 2 ^ 31) : bs_at f n (nI j) = f j := by
  unfold bs_at
  rw [if_neg (nI_pos (by omega)), if_neg (nI_ge hj hn), nI_clamp (by omega)]
theorem kx_tx_eq {f g : Nat → Int32} {t u : List Nat} (h1 : kx_tx f t) (h2 : kx_tx g u) : (t.length = u.length ∧ ∀ i, i < t.length → f i = g i) ↔ t = u := by
  constructor
  · rintro ⟨hl, hi⟩
    refine List.ext_getElem hl (fun i a b => ?_)
    obtain ⟨x1, x2⟩ := h1 i a
    obtain ⟨y1, y2⟩ := h2 i b
    have := hi i a
    rw [x1, y1] at this
    have := (nI_eq (by omega) (by omega)).mp this
    rw [List.getD_eq_getElem?_getD, List.getD_eq_getElem?_getD, List.getElem?_eq_getElem a, List.getElem?_eq_getElem b] at this
    exact this
  · rintro rfl
    exact ⟨rfl, fun i hi => by rw [(h1 i hi).1, (h2 i hi).1]⟩
section CC
variable {l : Launch} {D : va_G} {aC : Nat → ClassId} {base : Nat} {h : jjHp} {x0 : Nat} {ca : Nat → Nat} {nq : Nat} {ss : Int32} {lp : Nat} {fb fq fm : Nat → Option Nat}
theorem bs_beanAt {x : Int32} (hx : h x0 = some (.inr (0, bs_fs ca nq ss lp))) (hb : h (ca 3) = some (rfA (aC 5) 12 fb)) : jj_Ct l D aC base yn_BS_beanAt yb_BS_beanAt 2 (some (.object "BeanServer$Bean")) 0 0 0 [.ref x0, .int x] h (fun q h' => q = some (va_rf (bs_at fb 12 x)) ∧ h' = h) := by
  refine jj_start (tb := tb_BS_beanAt) (by decide) tg_BS_beanAt (Nat.le_of_ble_eq_true rfl) ?_
  intro p e s m args below meth cc C
  refine jj_go C 1 rfl ?_
  refine jj_if C rfl (fun z => ?_) (fun z => ?_)
  · refine jj_go C 2 rfl ?_
    exact jj_aret C rfl rfl (Or.inl ⟨_, rfl⟩) (Or.inl rfl) (Nat.le_of_ble_eq_true rfl) (Nat.le_of_ble_eq_true rfl) ⟨by unfold bs_at; rw [if_pos z]; rfl, rfl⟩
  obtain ⟨j, hj, rfl⟩ := nI_of z
  refine jj_go C 2 rfl ?_
  refine jj_if C rfl (fun z2 => ?_) (fun z2 => ?_)
  · have hlt : j < 12 := (nI_ltI (a := j) (b := 12) (by omega) (by decide)).mp z2
    refine jj_go C 1 rfl ?_
    refine jj_getf C rfl fl_BS_18 hx rfl ?_
    refine jj_go C 1 rfl ?_
    refine jj_aald C 5 rfl hb rfl rfl hlt (by decide) ?_
    exact jj_aret C rfl rfl (Or.inl ⟨_, rfl⟩) (va_rf_or _) (Nat.le_of_ble_eq_true rfl) (Nat.le_of_ble_eq_true rfl) ⟨by rw [bs_at_n hlt (by decide)], rfl⟩
  · have hge : 12 ≤ j := Nat.not_lt.mp (fun q => z2 (nI_lt (b := 12) q (by decide)))
    refine jj_go C 2 rfl ?_
    exact jj_aret C rfl rfl (Or.inl ⟨_, rfl⟩) (Or.inl rfl) (Nat.le_of_ble_eq_true rfl) (Nat.le_of_ble_eq_true rfl) ⟨by unfold bs_at; rw [if_neg z, if_pos (nI_le hge (by omega))]; rfl, rfl⟩
theorem bs_queryAt {x : Int32} (hx : h x0 = some (.inr (0, bs_fs ca nq ss lp))) (hb : h (ca 4) = some (rfA (aC 6) 6 fq)) (hn : nq ≤ 6) : jj_Ct l D aC base yn_BS_queryAt yb_BS_queryAt 2 (some (.object "BeanServer$Query")) 0 0 0 [.ref x0, .int x] h (fun q h' => q = some (va_rf (bs_at fq nq x)) ∧ h' = h) := by
  refine jj_start (tb := tb_BS_queryAt) (by decide) tg_BS_queryAt (Nat.le_of_ble_eq_true rfl) ?_
  intro p e s m args below meth cc C
  refine jj_go C 1 rfl ?_
  refine jj_if C rfl (fun z => ?_) (fun z => ?_)
  · refine jj_go C 2 rfl ?_
    exact jj_aret C rfl rfl (Or.inl ⟨_, rfl⟩) (Or.inl rfl) (Nat.le_of_ble_eq_true rfl) (Nat.le_of_ble_eq_true rfl) ⟨by unfold bs_at; rw [if_pos z]; rfl, rfl⟩
  obtain ⟨j, hj, rfl⟩ := nI_of z
  refine jj_go C 2 rfl ?_
  refine jj_getf C rfl fl_BS_28 hx rfl ?_
  refine jj_if C rfl (fun z2 => ?_) (fun z2 => ?_)
  · have hlt : j < nq := (nI_ltI (a := j) (b := nq) (by omega) (by omega)).mp z2
    refine jj_go C 1 rfl ?_
    refine jj_getf C rfl fl_BS_24 hx rfl ?_
    refine jj_go C 1 rfl ?_
    refine jj_aald C 6 rfl hb rfl rfl (show j < 6 by omega) (by decide) ?_
    exact jj_aret C rfl rfl (Or.inl ⟨_, rfl⟩) (va_rf_or _) (Nat.le_of_ble_eq_true rfl) (Nat.le_of_ble_eq_true rfl) ⟨by rw [bs_at_n hlt (by omega)], rfl⟩
  · have hge : nq ≤ j := Nat.not_lt.mp (fun q => z2 (nI_lt q (by omega)))
    refine jj_go C 2 rfl ?_
    exact jj_aret C rfl rfl (Or.inl ⟨_, rfl⟩) (Or.inl rfl) (Nat.le_of_ble_eq_true rfl) (Nat.le_of_ble_eq_true rfl) ⟨by unfold bs_at; rw [if_neg z, if_pos (nI_le hge (by omega))]; rfl, rfl⟩
theorem bs_monitorAt {x : Int32} (hx : h x0 = some (.inr (0, bs_fs ca nq ss lp))) (hb : h (ca 5) = some (rfA (aC 7) 6 fm)) : jj_Ct l D aC base yn_BS_monitorAt yb_BS_monitorAt 2 (some (.object "BeanServer$Monitor")) 0 0 0 [.ref x0, .int x] h (fun q h' => q = some (va_rf (bs_at fm 6 x)) ∧ h' = h) := by
  refine jj_start (tb := tb_BS_monitorAt) (by decide) tg_BS_monitorAt (Nat.le_of_ble_eq_true rfl) ?_
  intro p e s m args below meth cc C
  refine jj_go C 1 rfl ?_
  refine jj_if C rfl (fun z => ?_) (fun z => ?_)
  · refine jj_go C 2 rfl ?_
    exact jj_aret C rfl rfl (Or.inl ⟨_, rfl⟩) (Or.inl rfl) (Nat.le_of_ble_eq_true rfl) (Nat.le_of_ble_eq_true rfl) ⟨by unfold bs_at; rw [if_pos z]; rfl, rfl⟩
  obtain ⟨j, hj, rfl⟩ := nI_of z
  refine jj_go C 2 rfl ?_
  refine jj_if C rfl (fun z2 => ?_) (fun z2 => ?_)
  · have hlt : j < 6 := (nI_ltI (a := j) (b := 6) (by omega) (by decide)).mp z2
    refine jj_go C 1 rfl ?_
    refine jj_getf C rfl fl_BS_34 hx rfl ?_
    refine jj_go C 1 rfl ?_
    refine jj_aald C 7 rfl hb rfl rfl hlt (by decide) ?_
    exact jj_aret C rfl rfl (Or.inl ⟨_, rfl⟩) (va_rf_or _) (Nat.le_of_ble_eq_true rfl) (Nat.le_of_ble_eq_true rfl) ⟨by rw [bs_at_n hlt (by decide)], rfl⟩
  · have hge : 6 ≤ j := Nat.not_lt.mp (fun q => z2 (nI_lt (b := 6) q (by decide)))
    refine jj_go C 2 rfl ?_
    exact jj_aret C rfl rfl (Or.inl ⟨_, rfl⟩) (Or.inl rfl) (Nat.le_of_ble_eq_true rfl) (Nat.le_of_ble_eq_true rfl) ⟨by unfold bs_at; rw [if_neg z, if_pos (nI_le hge (by omega))]; rfl, rfl⟩
theorem bs_beanNamed {b0 r0 nm nmb : Nat} {cv cp : Nat → Nat} {nn rh : Nat → List Nat} {sg : Nat → Nat → Int32} {u : List Nat} (hx : h x0 = some (.inr (0, bs_fs ca nq ss lp))) (hb : h (ca 3) = some (rfA (aC 5) 12 fb)) (hB : RBs aC h b0 r0 cv cp nn sg fb) (hP : ∀ i, i < 12 → ¬ sg 2 i = 0 → rh i = px_fo (nn i) ∧ (rh i).length ≤ 60) (hs : kx_ST aC h nm nmb u) (hu : u.length ≤ 60) : jj_Ct l D aC base yn_BS_beanNamed yb_BS_beanNamed 3 (some .int) 2 0 0 [.ref x0, .ref nm] h (fun q h' => q = some (.int (match px_bw (sg 2) rh u 12 0 with | none => -2 | some b => nI b)) ∧ h' = h) := by
  refine jj_start (tb := tb_BS_beanNamed) (by decide) tg_BS_beanNamed (Nat.le_of_ble_eq_true rfl) ?_
  intro p e s m args below meth cc C
  have loop : ∀ (k i : Nat) (v : Int32), v = nI i → i + k = 12 → px_bw (sg 2) rh u k i = px_bw (sg 2) rh u 12 0 → jj_J p l e (jj_rm 2 0 0) s m args below meth cc D base 3 (MQ below (jj_Q D base (fun q h' => q = some (.int (match px_bw (sg 2) rh u 12 0 with | none => -2 | some b => nI b)) ∧ h' = h)) args s 0 0 (jj_A base)) 2 [(0, .ref x0), (1, .ref nm), (2, .int v)] [] h 0 0 := by
    intro k
    induction k with
    | zero =>
      intro i v hv hk hg
      have hg : none = px_bw (sg 2) rh u 12 0 := hg
      refine jj_go C 2 rfl ?_
      refine jj_if C rfl (fun _ => ?_) (fun z => absurd (by rw [hv]; exact nI_le (b := i) (a := 12) (by omega) (by omega)) z)
      refine jj_go C 1 rfl ?_
      exact jj_iret C rfl rfl rfl (Nat.le_of_ble_eq_true rfl) (Nat.le_of_ble_eq_true rfl) ⟨by rw [← hg], rfl⟩
    | succ k ih =>
      intro i v hv hk hg
      have hlt : i < 12 := by omega
      have hg : (if ¬ sg 2 i = 0 ∧ rh i = u then some i else px_bw (sg 2) rh u k (i + 1)) = px_bw (sg 2) rh u 12 0 := hg
      have next : ¬ (¬ sg 2 i = 0 ∧ rh i = u) → jj_J p l e (jj_rm 2 0 0) s m args below meth cc D base 3 (MQ below (jj_Q D base (fun q h' => q = some (.int (match px_bw (sg 2) rh u 12 0 with | none => -2 | some b => nI b)) ∧ h' = h)) args s 0 0 (jj_A base)) 38 [(0, .ref x0), (1, .ref nm), (2, .int v)] [] h 0 0 := by
        intro hno
        rw [if_neg hno] at hg
        refine jj_go C 2 rfl ?_
        exact ih (i + 1) (v + 1) (by rw [hv, nI_1]) (by omega) hg
      refine jj_go C 2 rfl ?_
      refine jj_if C rfl (fun z => absurd z (by rw [hv]; exact nI_ge (b := 12) hlt (by decide))) (fun _ => ?_)
      refine jj_go C 1 rfl ?_
      refine jj_getf C rfl fl_BS_18 hx rfl ?_
      refine jj_go C 1 rfl ?_
      refine jj_aald C 5 rfl hb rfl hv hlt (by decide) ?_
      rcases hB i hlt with ⟨q1, q2⟩ | ⟨q1, be, q2, pt, V, B, a1, a2, -⟩
      · rw [q2]
        refine jj_go C 1 rfl ?_
        exact next (fun q => q.1 q1)
      · rw [q2]
        obtain ⟨tx, txb, st, en, Sf, Ef, fm9, fmb9, ⟨p1, -⟩, -, p3, -⟩ := a2
        obtain ⟨hr1, hr2⟩ := hP i hlt q1
        refine jj_go C 2 rfl ?_
        refine jj_getf C rfl fl_BS_18 hx rfl ?_
        refine jj_go C 1 rfl ?_
        refine jj_aald C 5 rfl hb rfl hv hlt (by decide) ?_
        rw [q2]
        refine jj_getf C rfl fl_BS_147 a1 rfl ?_
        refine jj_getf C rfl fl_BS_70 p1 rfl ?_
        refine jj_go C 1 rfl ?_
        rw [← hr1] at p3
        obtain ⟨s1, z1, f1, o1, v1, x1⟩ := p3
        obtain ⟨s2, z2, f2, o2, v2, x2⟩ := hs
        refine jj_callV C rfl ml_BS_215 wd_477 o1 rfl se_ST_ST_equals (kx_ST_equals o1 v1 o2 v2 (by omega) (by omega)) (rest := []) rfl rfl ⟨Nat.le_of_ble_eq_true rfl, Nat.le_of_ble_eq_true rfl⟩ (Nat.le_of_ble_eq_true rfl) (Nat.le_of_ble_eq_true rfl) (Nat.le_of_ble_eq_true rfl) ?_
        rintro q9 h9 ⟨w, rfl, hw, hh9⟩
        rw [hh9]
        rcases hw with ⟨hw, hw2⟩ | ⟨hw, hw2⟩
        · have he := (kx_tx_eq x1 x2).mp hw2
          rw [if_pos ⟨q1, he⟩] at hg
          refine jj_if C rfl (fun z => absurd (hw.symm.trans z) (by decide)) (fun _ => ?_)
          refine jj_go C 1 rfl ?_
          exact jj_iret C rfl rfl rfl (Nat.le_of_ble_eq_true rfl) (Nat.le_of_ble_eq_true rfl) ⟨by rw [← hg, hv], rfl⟩
        · refine jj_if C rfl (fun _ => ?_) (fun z => absurd hw z)
          exact next (fun q => hw2 ((kx_tx_eq x1 x2).mpr q.2))
  refine jj_go C 2 rfl ?_
  exact loop 12 0 0 nI_0.symm rfl rfl
theorem bs_freeBean {b0 r0 : Nat} {cv cp : Nat → Nat} {nn : Nat → List Nat} {sg : Nat → Nat → Int32} (hx : h x0 = some (.inr (0, bs_fs ca nq ss lp))) (hb : h (ca 3) = some (rfA (aC 5) 12 fb)) (hB : RBs aC h b0 r0 cv cp nn sg fb) : jj_Ct l D aC base yn_BS_freeBean yb_BS_freeBean 2 (some .int) 0 0 0 [.ref x0] h (fun q h' => q = some (.int (match px_free (sg 2) 12 0 with | none => -4 | some b => nI b)) ∧ h' = h) := by
  refine jj_start (tb := tb_BS_freeBean) (by decide) tg_BS_freeBean (Nat.le_of_ble_eq_true rfl) ?_
  intro p e s m args below meth cc C
  have loop : ∀ (k i : Nat) (v : Int32), v = nI i → i + k = 12 → px_free (sg 2) k i = px_free (sg 2) 12 0 → jj_J p l e (jj_rm 0 0 0) s m args below meth cc D base 2 (MQ below (jj_Q D base (fun q h' => q = some (.int (match px_free (sg 2) 12 0 with | none => -4 | some b => nI b)) ∧ h' = h)) args s 0 0 (jj_A base)) 2 [(0, .ref x0), (1, .int v)] [] h 0 0 := by
    intro k
    induction k with
    | zero =>
      intro i v hv hk hg
      have hg : none = px_free (sg 2) 12 0 := hg
      refine jj_go C 2 rfl ?_
      refine jj_if C rfl (fun _ => ?_) (fun z => absurd (by rw [hv]; exact nI_le (b := i) (a := 12) (by omega) (by omega)) z)
      refine jj_go C 1 rfl ?_
      exact jj_iret C rfl rfl rfl (Nat.le_of_ble_eq_true rfl) (Nat.le_of_ble_eq_true rfl) ⟨by rw [← hg], rfl⟩
    | succ k ih =>
      intro i v hv hk hg
      have hlt : i < 12 := by omega
      have hg : (if sg 2 i = 0 then some i else px_free (sg 2) k (i + 1)) = px_free (sg 2) 12 0 := hg
      refine jj_go C 2 rfl ?_
      refine jj_if C rfl (fun z => absurd z (by rw [hv]; exact nI_ge (b := 12) hlt (by decide))) (fun _ => ?_)
      refine jj_go C 1 rfl ?_
      refine jj_getf C rfl fl_BS_18 hx rfl ?_
      refine jj_go C 1 rfl ?_
      refine jj_aald C 5 rfl hb rfl hv hlt (by decide) ?_
      rcases hB i hlt with ⟨q1, q2⟩ | ⟨q1, be, q2, -⟩
      · rw [q2]
        rw [if_pos q1] at hg
        refine jj_go C 2 rfl ?_
        exact jj_iret C rfl rfl rfl (Nat.le_of_ble_eq_true rfl) (Nat.le_of_ble_eq_true rfl) ⟨by rw [← hg, hv], rfl⟩
      · rw [q2]
        rw [if_neg q1] at hg
        refine jj_go C 3 rfl ?_
        exact ih (i + 1) (v + 1) (by rw [hv, nI_1]) (by omega) hg
  refine jj_go C 2 rfl ?_
  exact loop 12 0 0 nI_0.symm rfl rfl
end CC
