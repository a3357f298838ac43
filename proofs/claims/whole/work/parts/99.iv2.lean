/-! Each call on both: the same answer, and both states say the same again -/
theorem gv_io_n {io : Nat → Int32} {k : Int32} {j : Nat} (h1 : j ≠ 15) (h2 : j ≠ 17) : gv_io io k j = io j := by
  unfold gv_io
  split
  · rw [upd_ne h2, upd_ne h1]
  · rw [upd_ne h1]
theorem gv_sg_k {sg : Nat → Nat → Int32} {io : Nat → Int32} {k a v : Int32} {i : Nat} (h : i ≠ 18) : gv_sg sg io k a v i = sg i := gv_sg_n h
theorem cq_L {ca cv cp cm : Nat → Nat} {b0 : Nat} {sg : Nat → Nat → Int32} (L : List Nat) (hL : ∀ k, k ∈ L → k < 12 ∧ k ≠ 2) : ∀ c, c ∈ L.map ca → CQ ca cv cp cm b0 sg c := by
  intro c hc
  obtain ⟨k, hk, rfl⟩ := List.mem_map.mp hc
  exact cq_c (hL k hk).1 (hL k hk).2
theorem cq_A {ca cv cp cm : Nat → Nat} {b0 : Nat} {sg : Nat → Nat → Int32} (L : List Nat) (hL : ∀ k, k ∈ L → k < 12 ∧ k ≠ 2) : ∀ c, c ∈ L.map ca ++ lg_S (ca 6) (fun w => ca (7 + w)) → CQ ca cv cp cm b0 sg c := by
  intro c hc
  rcases List.mem_append.mp hc with hc | hc
  · exact cq_L L hL c hc
  · exact cq_l c hc
theorem PI.s4 {nn rh : Nat → List Nat} {sg sg' : Nat → Nat → Int32} {io : Nat → Int32} {nq nl : Nat} (hP : PI nn rh sg io nq nl) (hs : ∀ k, k ∈ [2, 5, 6, 7] → sg' k = sg k) (h4 : ∀ k, sg' 4 k = 0 ∨ sg' 4 k = 1) : PI nn rh sg' io nq nl := by
  obtain ⟨p1, p2, p3, p4, p5, p6, p7⟩ := hP
  refine ⟨?_, ?_, p3, ?_, p5, p6, h4⟩
  · rw [hs 2 (by decide)]
    exact p1
  · rw [hs 5 (by decide)]
    exact p2
  · rw [hs 6 (by decide), hs 7 (by decide)]
    exact p4
theorem px_b_i {f : Nat → Int32} {j : Nat} : px_b f j = true ↔ ¬ f j = 0 := by
  unfold px_b
  simp
theorem px_slot_e {f : Nat → Int32} {x a : Int32} (h : px_slot f x a = true) : ∃ i j, i < 12 ∧ j < 5 ∧ x = nI i ∧ a = nI j ∧ ¬ f i = 0 := by
  unfold px_slot at h
  rw [Bool.and_eq_true] at h
  obtain ⟨i, i1, i2, i3⟩ := px_at_t (by decide) h.1
  obtain ⟨j, j1, j2, -⟩ := px_at_t (by decide) h.2
  exact ⟨i, j, i1, j1, i2, j2, px_b_i.mp i3⟩
section IVB
variable {l : Launch} {D : va_G} {aC : Nat → ClassId} {base : Nat} {h : jjHp} {y : Nat} {ad ca : Nat → Nat}
theorem IV.r0 {b0 : Nat} {cv cp cm : Nat → Nat} {nn rh rh0 : Nat → List Nat} {sg sg0 : Nat → Nat → Int32} {mu mu0 : Nat → Int64} {io io0 : Nat → Int32} {bm nq nl lp r0 : Nat} {fb fq fm : Nat → Option Nat} (hA : jA aC) (h11 : ca 11 ≠ ad 20) (hC : RC aC h r0 b0 ca cv cp cm nn rh sg mu io bm nq nl lp fb fq fm) (hR : RR aC h y ad rh0 sg0 mu0 io0) : ad 21 ≠ ca 1 := fun q => CQ.off hA hC hR h11 (cq_c (k := 1) (by decide) (by decide)) (by rw [← q]; exact rr_S_k (by decide))
theorem st_write {c : Nat} (hA : jA aC) (h11 : ca 11 ≠ ad 20) (hI : IV aC h ca y ad) (hc : c < 65536) : jj_Ct l D aC base yn_BS_write yb_BS_write 2 (some .boolean) 6 1 142 [.ref (ca 0), .int (nI c)] h (fun q h1 => ∃ v fs, q = some (.int v) ∧ h1 y = some (.inr (9, fs)) ∧ jj_Ct l D aC base yn_MO_write yb_MO_write 2 (some .boolean) 1 0 0 [.ref y, .int (nI c)] h1 (fun q2 h2 => q2 = some (.int v) ∧ IV aC h2 ca y ad)) := by
  obtain ⟨b0, cv, cp, cm, nn, rh, sg, mu, io, bm, nq, nl, lp, fb, fq, fm, hC, hR, hD, hP⟩ := hI
  refine jj_Ct_post (bs_write hA hC hP.2.1.1 (hR.len (by decide)).1 hc) (fun q h1 hq => ?_)
  obtain ⟨rfl, b1, bm1, hC1, -, hf1⟩ := hq
  have hR1 := RR.keepC hA hC hR h11 hf1 (fun c hc => by
    rcases List.mem_cons.mp hc with rfl | hc
    · exact cq_c (by decide) (by decide)
    · rw [List.mem_singleton.mp hc]
      exact Or.inr (Or.inl rfl))
  refine ⟨_, _, rfl, hR1.oy, jj_Ct_post (mo_write hR1.oT hc) (fun q2 h2 hq2 => ?_)⟩
  obtain ⟨rfl, hT, hf2⟩ := hq2
  have hR2 := hR1.text hT hf2
  refine ⟨rfl, IV.fin hA h11 hC1 hR1 (hf2.mono (fun c hc => ?_)) hR2.x hD (hP.cg (fun r hr => ?_) (fun _ _ => rfl) hP.2.2.2.2.1 rfl)⟩
  · rcases List.mem_cons.mp hc with rfl | hc
    · exact rr_S_k (by decide)
    · rw [List.mem_singleton.mp hc]
      exact rr_S_k (by decide)
  · split
    · exact jr_up_n (by omega)
    · rfl
theorem st_register (hA : jA aC) (h11 : ca 11 ≠ ad 20) (hI : IV aC h ca y ad) : jj_Ct l D aC base yn_BS_register yb_BS_register 3 (some .int) 11 74 9517 [.ref (ca 0)] h (fun q h1 => ∃ v fs, q = some (.int v) ∧ h1 y = some (.inr (9, fs)) ∧ jj_Ct l D aC base yn_MO_register yb_MO_register 3 (some .int) 5 0 0 [.ref y] h1 (fun q2 h2 => q2 = some (.int v) ∧ IV aC h2 ca y ad)) := by
  obtain ⟨b0, cv, cp, cm, nn, rh, sg, mu, io, bm, nq, nl, lp, fb, fq, fm, hC, hR, hD, hP⟩ := hI
  refine jj_Ct_post (bs_register hA hC hD hP.2.1.1 (hR.len (by decide)).1 (hR.oc (k := 21) (by decide) (by decide) (by decide)) (IV.r0 hA h11 hC hR) (fun i hi hp => ⟨(hP.1 i hi hp).1, (hR.len (by omega)).1⟩) hP.2.2.2.2.1) (fun q h1 hq => ?_)
  obtain ⟨rfl, hf1, c0, c1⟩ := hq
  have hR1 := RR.keepC hA hC hR h11 hf1 (cq_A [1, 3] (by decide))
  refine ⟨_, _, rfl, hR1.oy, jj_Ct_post (rr_register hR1) (fun q2 h2 hq2 => ?_)⟩
  obtain ⟨rfl, hf2, r0, r1⟩ := hq2
  refine ⟨rfl, ?_⟩
  cases hn : px_new (sg 2) rh (rh 33) with
  | none => exact IV.fin hA h11 (c0 hn) hR1 hf2 (r0 hn) hD (hP.cg (fun r hr => jr_up_n (by omega)) (fun _ _ => rfl) hP.2.2.2.2.1 rfl)
  | some b =>
    obtain ⟨nl', va, pr, be, -, -, hC1, h17, hD1⟩ := c1 b hn
    have hb : b < 12 ∧ px_pa (rh 33) = true := by
      unfold px_new at hn
      split at hn
      next z => exact ⟨by have := px_free_lt 12 0 hn; omega, (px_fo_rd z.1).2⟩
      next => cases hn
    have e2 : ∀ i, i ≠ b → gv_sg (px_nsg sg b 5) io 0 (nI b) 0 2 i = sg 2 i := fun i hi => by
      rw [gv_sg_k (by decide)]
      exact (upd_ne hi : upd (sg 2) b 1 i = sg 2 i)
    refine IV.fin hA h11 hC1 hR1 hf2 (r1 b hn) ?_ ?_
    · unfold RD
      rw [gv_sg_k (by decide), gv_sg_k (by decide)]
      exact hD1
    · obtain ⟨p1, p2, p3, p4, p5, p6, p7⟩ := hP
      refine ⟨fun i hi hp => ?_, ⟨p2.1, ?_⟩, fun n hn => ?_, ?_, h17, by rw [gv_io_n (by decide) (by decide)]; exact p6, fun k => ?_⟩
      · by_cases hib : i = b
        · subst hib
          rw [jr_up_s, jr_up_s]
          exact ⟨rfl, hb.2⟩
        · rw [e2 i hib] at hp
          rw [jr_up_n hib, jr_up_n hib, jr_up_n (by omega)]
          exact p1 i hi hp
      · rw [gv_sg_k (by decide)]
        exact p2.2
      · have := p2.1
        rw [jr_up_n (by omega), jr_up_n (by omega), jr_up_n (by omega), jr_up_n (by omega)]
        exact p3 n hn
      · rw [gv_sg_k (by decide), gv_sg_k (by decide)]
        exact p4
      · rw [gv_sg_k (by decide)]
        show px_clr (sg 4) b 5 k = 0 ∨ px_clr (sg 4) b 5 k = 1
        unfold px_clr
        split
        · exact Or.inl rfl
        · exact p7 k
theorem st_unregister (hA : jA aC) (h11 : ca 11 ≠ ad 20) (hI : IV aC h ca y ad) : jj_Ct l D aC base yn_BS_unregister yb_BS_unregister 3 (some .int) 11 71 9504 [.ref (ca 0)] h (fun q h1 => ∃ v fs, q = some (.int v) ∧ h1 y = some (.inr (9, fs)) ∧ jj_Ct l D aC base yn_MO_unregister yb_MO_unregister 2 (some .int) 6 0 0 [.ref y] h1 (fun q2 h2 => q2 = some (.int v) ∧ IV aC h2 ca y ad)) := by
  obtain ⟨b0, cv, cp, cm, nn, rh, sg, mu, io, bm, nq, nl, lp, fb, fq, fm, hC, hR, hD, hP⟩ := hI
  refine jj_Ct_post (bs_unregister hA hC hP.2.1.1 (hR.len (by decide)).1 (hR.oc (k := 21) (by decide) (by decide) (by decide)) (IV.r0 hA h11 hC hR) (fun i hi hp => ⟨(hP.1 i hi hp).1, (hR.len (by omega)).1⟩) hP.2.2.2.2.1) (fun q h1 hq => ?_)
  obtain ⟨rfl, hf1, c0, c1⟩ := hq
  have hR1 := RR.keepC hA hC hR h11 hf1 (cq_A [1, 3] (by decide))
  refine ⟨_, _, rfl, hR1.oy, jj_Ct_post (rr_unregister hR1) (fun q2 h2 hq2 => ?_)⟩
  obtain ⟨rfl, hf2, r0, r1⟩ := hq2
  refine ⟨rfl, ?_⟩
  cases hn : px_who (sg 2) rh (rh 33) with
  | none => exact IV.fin hA h11 (c0 hn) hR1 hf2 (r0 hn) hD (hP.cg (fun r hr => jr_up_n (by omega)) (fun _ _ => rfl) hP.2.2.2.2.1 rfl)
  | some b =>
    obtain ⟨nl', hC1, h17⟩ := c1 b hn
    have e2 : ∀ i, ¬ gv_sg (va_up sg 2 (upd (sg 2) b 0)) io 1 (nI b) 0 2 i = 0 → ¬ sg 2 i = 0 := fun i hi => by
      rw [gv_sg_k (by decide)] at hi
      have hi : ¬ upd (sg 2) b 0 i = 0 := hi
      unfold upd at hi
      split at hi
      · exact absurd rfl hi
      · exact hi
    refine IV.fin hA h11 hC1 hR1 hf2 (r1 b hn) ?_ ?_
    · refine ⟨fun i j hi hj pi pj hij => hD.1 i j hi hj (e2 i pi) (e2 j pj) hij, ?_⟩
      rw [gv_sg_k (by decide)]
      exact hD.2
    · obtain ⟨p1, p2, p3, p4, p5, p6, p7⟩ := hP
      refine ⟨fun i hi hp => ?_, ⟨p2.1, ?_⟩, fun n hn => ?_, ?_, h17, by rw [gv_io_n (by decide) (by decide)]; exact p6, ?_⟩
      · rw [jr_up_n (by omega)]
        exact p1 i hi (e2 i hp)
      · rw [gv_sg_k (by decide)]
        exact p2.2
      · have := p2.1
        rw [jr_up_n (by omega), jr_up_n (by omega)]
        exact p3 n hn
      · rw [gv_sg_k (by decide), gv_sg_k (by decide)]
        exact p4
      · rw [gv_sg_k (by decide)]
        exact p7
theorem st_find (hA : jA aC) (h11 : ca 11 ≠ ad 20) (hI : IV aC h ca y ad) : jj_Ct l D aC base yn_BS_find yb_BS_find 2 (some .int) 11 71 9504 [.ref (ca 0)] h (fun q h1 => ∃ v fs, q = some (.int v) ∧ h1 y = some (.inr (9, fs)) ∧ jj_Ct l D aC base yn_MO_find yb_MO_find 2 (some .int) 5 0 0 [.ref y] h1 (fun q2 h2 => q2 = some (.int v) ∧ IV aC h2 ca y ad)) := by
  obtain ⟨b0, cv, cp, cm, nn, rh, sg, mu, io, bm, nq, nl, lp, fb, fq, fm, hC, hR, hD, hP⟩ := hI
  refine jj_Ct_post (bs_find hA hC hP.2.1.1 (hR.len (by decide)).1 (hR.oc (k := 21) (by decide) (by decide) (by decide)) (IV.r0 hA h11 hC hR) (fun i hi hp => ⟨(hP.1 i hi hp).1, (hR.len (by omega)).1⟩)) (fun q h1 hq => ?_)
  obtain ⟨rfl, hC1, hf1⟩ := hq
  have hR1 := RR.keepC hA hC hR h11 hf1 (cq_L [1] (by decide))
  refine ⟨_, _, rfl, hR1.oy, jj_Ct_post (rr_find hR1) (fun q2 h2 hq2 => ?_)⟩
  obtain ⟨rfl, hf2, hX⟩ := hq2
  exact ⟨rfl, IV.fin hA h11 hC1 hR1 hf2 hX hD (hP.cg (fun r hr => jr_up_n (by omega)) (fun _ _ => rfl) hP.2.2.2.2.1 rfl)⟩
theorem st_set {x a v0 : Int32} (hA : jA aC) (h11 : ca 11 ≠ ad 20) (hI : IV aC h ca y ad) : jj_Ct l D aC base yn_BS_set yb_BS_set 5 (some .boolean) 1 0 0 [.ref (ca 0), .int x, .int a, .int v0] h (fun q h1 => ∃ v fs, q = some (.int v) ∧ h1 y = some (.inr (9, fs)) ∧ jj_Ct l D aC base yn_MO_set yb_MO_set 4 (some .boolean) 2 0 0 [.ref y, .int x, .int a, .int v0] h1 (fun q2 h2 => q2 = some (.int v) ∧ IV aC h2 ca y ad)) := by
  have hI0 := hI
  obtain ⟨b0, cv, cp, cm, nn, rh, sg, mu, io, bm, nq, nl, lp, fb, fq, fm, hC, hR, hD, hP⟩ := hI
  cases hs : px_slot (sg 2) x a with
  | false =>
    refine jj_Ct_post (bs_set_f hC hs) (fun q h1 hq => ?_)
    obtain ⟨rfl, rfl⟩ := hq
    refine ⟨_, _, rfl, hR.oy, jj_Ct_post (rr_set_f hR hs) (fun q2 h2 hq2 => ?_)⟩
    obtain ⟨rfl, rfl⟩ := hq2
    exact ⟨rfl, hI0⟩
  | true =>
    obtain ⟨i, j, hi, hj, rfl, rfl, hp⟩ := px_slot_e hs
    refine jj_Ct_post (bs_set_t hA hC hD hi hj hp) (fun q h1 hq => ?_)
    obtain ⟨rfl, hC1, hf1⟩ := hq
    have hR1 := RR.keepC hA hC hR h11 hf1 (fun c hc => Or.inr (Or.inr (Or.inl ⟨i, hi, hp, by
      rcases List.mem_cons.mp hc with rfl | hc
      · exact Or.inl rfl
      · exact Or.inr (List.mem_singleton.mp hc)⟩)))
    refine ⟨_, _, rfl, hR1.oy, jj_Ct_post (rr_set_t hR1 hi hj hs) (fun q2 h2 hq2 => ?_)⟩
    obtain ⟨rfl, hR2, hf2⟩ := hq2
    refine ⟨rfl, IV.fin hA h11 hC1 hR1 hf2 hR2.x hD (hP.s4 (fun k hk => ?_) (fun k => ?_))⟩
    · unfold va_up
      rw [if_neg (by intro q; rw [q] at hk; revert hk; decide), if_neg (by intro q; rw [q] at hk; revert hk; decide)]
    · show upd (sg 4) (5 * i + j) 1 k = 0 ∨ upd (sg 4) (5 * i + j) 1 k = 1
      unfold upd
      split
      · exact Or.inr rfl
      · exact hP.2.2.2.2.2.2 k
theorem st_unset {x a : Int32} (hA : jA aC) (h11 : ca 11 ≠ ad 20) (hI : IV aC h ca y ad) : jj_Ct l D aC base yn_BS_unset yb_BS_unset 4 (some .boolean) 1 0 0 [.ref (ca 0), .int x, .int a] h (fun q h1 => ∃ v fs, q = some (.int v) ∧ h1 y = some (.inr (9, fs)) ∧ jj_Ct l D aC base yn_MO_unset yb_MO_unset 4 (some .boolean) 2 0 0 [.ref y, .int x, .int a] h1 (fun q2 h2 => q2 = some (.int v) ∧ IV aC h2 ca y ad)) := by
  have hI0 := hI
  obtain ⟨b0, cv, cp, cm, nn, rh, sg, mu, io, bm, nq, nl, lp, fb, fq, fm, hC, hR, hD, hP⟩ := hI
  cases hs : px_slot (sg 2) x a with
  | false =>
    refine jj_Ct_post (bs_unset_f hC hs) (fun q h1 hq => ?_)
    obtain ⟨rfl, rfl⟩ := hq
    refine ⟨_, _, rfl, hR.oy, jj_Ct_post (rr_unset_f hR hs) (fun q2 h2 hq2 => ?_)⟩
    obtain ⟨rfl, rfl⟩ := hq2
    exact ⟨rfl, hI0⟩
  | true =>
    obtain ⟨i, j, hi, hj, rfl, rfl, hp⟩ := px_slot_e hs
    refine jj_Ct_post (bs_unset_t hA hC hD hi hj hp) (fun q h1 hq => ?_)
    obtain ⟨rfl, hC1, hf1⟩ := hq
    have hR1 := RR.keepC hA hC hR h11 hf1 (fun c hc => Or.inr (Or.inr (Or.inl ⟨i, hi, hp, Or.inr (List.mem_singleton.mp hc)⟩)))
    have h4 := hP.2.2.2.2.2.2 (5 * i + j)
    refine ⟨_, _, rfl, hR1.oy, jj_Ct_post (rr_unset_t hR1 hi hj hs h4) (fun q2 h2 hq2 => ?_)⟩
    obtain ⟨rfl, hR2, hf2⟩ := hq2
    refine ⟨?_, IV.fin hA h11 hC1 hR1 hf2 hR2.x hD (hP.s4 (fun k hk => ?_) (fun k => ?_))⟩
    · rcases h4 with z | z <;> rw [z] <;> rfl
    · unfold va_up
      rw [if_neg (by intro q; rw [q] at hk; revert hk; decide)]
    · show upd (sg 4) (5 * i + j) 0 k = 0 ∨ upd (sg 4) (5 * i + j) 0 k = 1
      unfold upd
      split
      · exact Or.inl rfl
      · exact hP.2.2.2.2.2.2 k
theorem st_get {x a : Int32} (hI : IV aC h ca y ad) : jj_Ct l D aC base yn_BS_get yb_BS_get 4 (some .int) 1 0 0 [.ref (ca 0), .int x, .int a] h (fun q h1 => ∃ v fs, q = some (.int v) ∧ h1 y = some (.inr (9, fs)) ∧ jj_Ct l D aC base yn_MO_get yb_MO_get 3 (some .int) 2 0 0 [.ref y, .int x, .int a] h1 (fun q2 h2 => q2 = some (.int v) ∧ IV aC h2 ca y ad)) := by
  have hI0 := hI
  obtain ⟨b0, cv, cp, cm, nn, rh, sg, mu, io, bm, nq, nl, lp, fb, fq, fm, hC, hR, hD, hP⟩ := hI
  refine jj_Ct_post (bs_get hC) (fun q h1 hq => ?_)
  obtain ⟨rfl, rfl⟩ := hq
  cases hs : px_slot (sg 2) x a with
  | false =>
    refine ⟨_, _, rfl, hR.oy, jj_Ct_post (rr_get_f hR hs) (fun q2 h2 hq2 => ?_)⟩
    obtain ⟨rfl, rfl⟩ := hq2
    exact ⟨rfl, hI0⟩
  | true =>
    obtain ⟨i, j, hi, hj, rfl, rfl, hp⟩ := px_slot_e hs
    refine ⟨_, _, rfl, hR.oy, jj_Ct_post (rr_get_t hR hi hj hs) (fun q2 h2 hq2 => ?_)⟩
    obtain ⟨rfl, rfl⟩ := hq2
    refine ⟨?_, hI0⟩
    rw [nI_clamp (by omega), nI_clamp (by omega)]
    rfl
theorem st_define (hA : jA aC) (h11 : ca 11 ≠ ad 20) (hI : IV aC h ca y ad) : jj_Ct l D aC base yn_BS_define yb_BS_define 3 (some .int) 191 70 8851 [.ref (ca 0)] h (fun q h1 => ∃ v fs, q = some (.int v) ∧ h1 y = some (.inr (9, fs)) ∧ jj_Ct l D aC base yn_MO_define yb_MO_define 3 (some .int) 5 0 0 [.ref y] h1 (fun q2 h2 => q2 = some (.int v) ∧ IV aC h2 ca y ad)) := by
  obtain ⟨b0, cv, cp, cm, nn, rh, sg, mu, io, bm, nq, nl, lp, fb, fq, fm, hC, hR, hD, hP⟩ := hI
  have hlen := (hR.len (r := 33) (by decide)).1
  obtain ⟨f, j0, k0, A, hX, hX2⟩ : ∃ f j0 k0 A, (¬ qq_X 2 (rh 33) ∨ QQ 2 (rh 33) f j0 k0 A) ∧ (∀ n, px_dq (rh 33) (sg 5) = some n → QQ 2 (rh 33) f j0 k0 A ∧ (rh 33).count 40 < 12) := by
    have cnt : ∀ n, px_dq (rh 33) (sg 5) = some n → qq_X 2 (rh 33) ∧ (rh 33).count 40 < 12 := by
      intro n hn
      unfold px_dq px_hd at hn
      split at hn
      · cases hn
      · next z =>
        split at hn
        · next z2 => exact ⟨(px_iq_i hlen).mp z2, by omega⟩
        · cases hn
    by_cases hq : qq_X 2 (rh 33)
    · obtain ⟨f, j0, k0, A, hQ⟩ := hq
      exact ⟨f, j0, k0, A, Or.inr hQ, fun n hn => ⟨hQ, (cnt n hn).2⟩⟩
    · exact ⟨fun _ _ => [], 0, 0, fun _ => 0, Or.inl hq, fun n hn => absurd (cnt n hn).1 hq⟩
  refine jj_Ct_post (bs_define hA hC hP.2.1.1 hP.2.1.2 rfl hlen hX) (fun q h1 hq => ?_)
  obtain ⟨rfl, hf1, c0, c1⟩ := hq
  have hR1 := RR.keepC hA hC hR h11 hf1 (cq_L [0, 1, 4] (by decide))
  refine ⟨_, _, rfl, hR1.oy, jj_Ct_post (rr_define hR1 rfl hX) (fun q2 h2 hq2 => ?_)⟩
  obtain ⟨rfl, hf2, r0, r1⟩ := hq2
  refine ⟨rfl, ?_⟩
  cases hn : px_dq (rh 33) (sg 5) with
  | none => exact IV.fin hA h11 (c0 hn) hR1 hf2 (r0 hn) hD (hP.cg (fun r hr => jr_up_n (by omega)) (fun _ _ => rfl) hP.2.2.2.2.1 rfl)
  | some n =>
    obtain ⟨rfl, hn6, qo, hC1⟩ := c1 n hn
    obtain ⟨hQ, hct⟩ := hX2 n hn
    refine IV.fin hA h11 hC1 hR1 hf2 (r1 n hn) hD ?_
    obtain ⟨p1, p2, p3, p4, p5, p6, p7⟩ := hP
    refine ⟨fun i hi hp => ?_, ⟨by omega, fun i hi => ?_⟩, fun m hm => ?_, p4, p5, p6, p7⟩
    · rw [jr_up_n (by omega), jr_up_n (by omega), jr_up_n (by omega)]
      exact p1 i hi hp
    · show upd (sg 5) n 1 i = 0 ↔ n + 1 ≤ i
      unfold upd
      split
      · next z =>
        subst z
        exact ⟨fun q => absurd q (by decide), fun q => by omega⟩
      · next z =>
        rw [p2.2 i hi]
        omega
    · by_cases hmn : m = n
      · subst hmn
        rw [jr_up_s, jr_up_n (by omega), jr_up_s]
        exact ⟨f, j0, k0, A, hQ, rfl, hct⟩
      · rw [jr_up_n (by omega), jr_up_n (by omega), jr_up_n (by omega), jr_up_n (by omega), jr_up_n (by omega), jr_up_n (by omega)]
        exact p3 m (by omega)
theorem IV.q5 {nn rh : Nat → List Nat} {sg : Nat → Nat → Int32} {io : Nat → Int32} {nq nl : Nat} {x : Int32} (hP : PI nn rh sg io nq nl) (hx : px_at 6 (px_b (sg 5)) x = true) : ∃ n f j0 k0 A, n < nq ∧ n < 6 ∧ x = nI n ∧ ¬ sg 5 n = 0 ∧ QQ 2 (rh (18 + n)) f j0 k0 A ∧ rh (24 + n) = f 0 0 ∧ (rh (18 + n)).count 40 < 12 := by
  obtain ⟨n, n1, n2, n3⟩ := px_at_t (by decide) hx
  have n3 := px_b_i.mp n3
  have hlt : n < nq := Nat.not_le.mp (fun q => n3 ((hP.2.1.2 n n1).mpr q))
  obtain ⟨f, j0, k0, A, q1, q2, q3⟩ := hP.2.2.1 n hlt
  exact ⟨n, f, j0, k0, A, hlt, n1, n2, n3, q1, q2, q3⟩
theorem st_check {x z0 : Int32} (hA : jA aC) (h11 : ca 11 ≠ ad 20) (hI : IV aC h ca y ad) : jj_Ct l D aC base yn_BS_check yb_BS_check 5 (some .int) 191 1 6 [.ref (ca 0), .int x, .int z0] h (fun q h1 => ∃ v fs, q = some (.int v) ∧ h1 y = some (.inr (9, fs)) ∧ jj_Ct l D aC base yn_MO_check yb_MO_check 3 (some .int) 7 0 0 [.ref y, .int x, .int z0] h1 (fun q2 h2 => q2 = some (.int v) ∧ IV aC h2 ca y ad)) := by
  have hI0 := hI
  obtain ⟨b0, cv, cp, cm, nn, rh, sg, mu, io, bm, nq, nl, lp, fb, fq, fm, hC, hR, hD, hP⟩ := hI
  cases hs : (px_at 6 (px_b (sg 5)) x && px_at 12 (px_b (sg 2)) z0) with
  | false =>
    refine jj_Ct_post (bs_check_f hC hP.2.1.1 hP.2.1.2 hs) (fun q h1 hq => ?_)
    obtain ⟨rfl, rfl⟩ := hq
    refine ⟨_, _, rfl, hR.oy, jj_Ct_post (rr_check_f hR hs) (fun q2 h2 hq2 => ?_)⟩
    obtain ⟨rfl, rfl⟩ := hq2
    exact ⟨rfl, hI0⟩
  | true =>
    rw [Bool.and_eq_true] at hs
    obtain ⟨n, f, j0, k0, A, n1, n6, rfl, n5, q1, q2, q3⟩ := IV.q5 hP hs.1
    obtain ⟨i, hi, rfl, hp⟩ := px_at_t (by decide) hs.2
    have hp := px_b_i.mp hp
    refine jj_Ct_post (bs_check_t hA hC hP.2.1.1 n1 hi hp q1 q2 (hR.len (by omega)).1) (fun q h1 hq => ?_)
    obtain ⟨rfl, hC1, hf1⟩ := hq
    have hR1 := RR.keepC hA hC hR h11 hf1 (fun c hc => by cases hc)
    refine ⟨_, _, rfl, hR1.oy, jj_Ct_post (rr_check_t hR1 n6 n5 hi hp q1 q3) (fun q2 h2 hq2 => ?_)⟩
    obtain ⟨rfl, hf2, hX⟩ := hq2
    exact ⟨rfl, IV.fin hA h11 hC1 hR1 hf2 hX hD hP⟩
theorem st_select {x : Int32} (hA : jA aC) (h11 : ca 11 ≠ ad 20) (hI : IV aC h ca y ad) : jj_Ct l D aC base yn_BS_select yb_BS_select 7 (some .int) 191 83 9576 [.ref (ca 0), .int x] h (fun q h1 => ∃ v fs, q = some (.int v) ∧ h1 y = some (.inr (9, fs)) ∧ jj_Ct l D aC base yn_MO_select yb_MO_select 3 (some .int) 7 0 0 [.ref y, .int x] h1 (fun q2 h2 => q2 = some (.int v) ∧ IV aC h2 ca y ad)) := by
  obtain ⟨b0, cv, cp, cm, nn, rh, sg, mu, io, bm, nq, nl, lp, fb, fq, fm, hC, hR, hD, hP⟩ := hI
  obtain ⟨S, qc, qr, s0, s1, s2⟩ : ∃ S : Nat → Bool, (¬ x = -1 → px_at 6 (px_b (sg 5)) x = true → ∃ n f j0 k0 A, n < nq ∧ x = nI n ∧ QQ 2 (rh (18 + n)) f j0 k0 A ∧ rh (24 + n) = f 0 0 ∧ (rh (24 + n)).length ≤ 60 ∧ ∀ b, b < 12 → ¬ sg 2 b = 0 → px_fit (rh 33) (nn b) = true → S b = (A (rr_E sg b) == 1)) ∧ (¬ x = -1 → px_at 6 (px_b (sg 5)) x = true → ∃ n f j0 k0 A, n < 6 ∧ x = nI n ∧ QQ 2 (rh (18 + n)) f j0 k0 A ∧ (rh (18 + n)).count 40 < 12 ∧ ∀ b, b < 12 → ¬ sg 2 b = 0 → px_fit (rh 33) (nn b) = true → S b = (A (rr_E sg b) == 1)) ∧ (∀ b, b < 12 → sg 2 b = 0 → S b = false) ∧ (∀ b, b < 12 → ¬ sg 2 b = 0 → px_fit (rh 33) (nn b) = false → S b = false) ∧ (x = -1 → ∀ b, b < 12 → ¬ sg 2 b = 0 → px_fit (rh 33) (nn b) = true → S b = true) := by
    by_cases hx : ¬ x = -1 ∧ px_at 6 (px_b (sg 5)) x = true
    · obtain ⟨n, f, j0, k0, A, n1, n6, n2, n5, q1, q2, q3⟩ := IV.q5 hP hx.2
      have hS : ∀ b, b < 12 → ¬ sg 2 b = 0 → px_fit (rh 33) (nn b) = true → (!(sg 2 b == 0) && (px_fit (rh 33) (nn b) && (A (rr_E sg b) == 1))) = (A (rr_E sg b) == 1) := by
        intro b _ h2 h3
        rw [h3]
        simp [h2]
      refine ⟨fun b => !(sg 2 b == 0) && (px_fit (rh 33) (nn b) && (A (rr_E sg b) == 1)), fun _ _ => ⟨n, f, j0, k0, A, n1, n2, q1, q2, (hR.len (by omega)).1, hS⟩, fun _ _ => ⟨n, f, j0, k0, A, n6, n2, q1, q3, hS⟩, fun b _ h2 => by simp [h2], fun b _ _ h3 => by simp [h3], fun q => absurd q hx.1⟩
    · refine ⟨fun b => !(sg 2 b == 0) && px_fit (rh 33) (nn b), fun a b => absurd ⟨a, b⟩ hx, fun a b => absurd ⟨a, b⟩ hx, fun b _ h2 => by simp [h2], fun b _ _ h3 => by simp [h3], fun _ b _ h2 h3 => by simp [h2, h3]⟩
  refine jj_Ct_post (bs_select hA hC hP.2.1.1 hP.2.1.2 rfl (hR.len (by decide)).1 (hR.oc (k := 21) (by decide) (by decide) (by decide)) (IV.r0 hA h11 hC hR) (fun b hb hp => (hP.1 b hb hp).2) qc s0 s1 s2) (fun q h1 hq => ?_)
  obtain ⟨hf1, c0, c1⟩ := hq
  have hR1 := RR.keepC hA hC hR h11 hf1 (cq_L [0, 1, 11] (by decide))
  have hr := rr_select (l := l) (D := D) (base := base) hR1 rfl hP.1 qr s0 s1 s2
  cases hk : px_sok (rh 33) (sg 5) x with
  | false =>
    obtain ⟨rfl, hC1⟩ := c0 hk
    refine ⟨_, _, rfl, hR1.oy, jj_Ct_post hr (fun q2 h2 hq2 => ?_)⟩
    obtain ⟨hf2, r0, -⟩ := hq2
    obtain ⟨rfl, hX⟩ := r0 hk
    exact ⟨rfl, IV.fin hA h11 hC1 hR1 hf2 hX hD (hP.cg (fun r hr => jr_up_n (by omega)) (fun _ _ => rfl) hP.2.2.2.2.1 rfl)⟩
  | true =>
    obtain ⟨rfl, lp', hC1⟩ := c1 hk
    refine ⟨_, _, rfl, hR1.oy, jj_Ct_post hr (fun q2 h2 hq2 => ?_)⟩
    obtain ⟨hf2, -, r1⟩ := hq2
    obtain ⟨rfl, hX⟩ := r1 hk
    refine ⟨rfl, IV.fin hA h11 hC1 hR1 hf2 hX hD ?_⟩
    obtain ⟨p1, p2, p3, p4, p5, p6, p7⟩ := hP
    refine ⟨fun i hi hp => ?_, p2, fun m hm => ?_, p4, p5, ⟨_, px_cf_le (S := S) (F := sg 20) 12, rfl⟩, p7⟩
    · rw [jr_up_n (by omega), jr_up_n (by omega)]
      exact p1 i hi hp
    · have := p2.1
      rw [jr_up_n (by omega), jr_up_n (by omega), jr_up_n (by omega), jr_up_n (by omega)]
      exact p3 m hm
theorem st_selected {x : Int32} (hI : IV aC h ca y ad) : jj_Ct l D aC base yn_BS_selected yb_BS_selected 2 (some .int) 0 0 0 [.ref (ca 0), .int x] h (fun q h1 => ∃ v fs, q = some (.int v) ∧ h1 y = some (.inr (9, fs)) ∧ jj_Ct l D aC base yn_MO_selected yb_MO_selected 2 (some .int) 0 0 0 [.ref y, .int x] h1 (fun q2 h2 => q2 = some (.int v) ∧ IV aC h2 ca y ad)) := by
  have hI0 := hI
  obtain ⟨b0, cv, cp, cm, nn, rh, sg, mu, io, bm, nq, nl, lp, fb, fq, fm, hC, hR, hD, hP⟩ := hI
  obtain ⟨n, n1, n2⟩ := hP.2.2.2.2.2.1
  refine jj_Ct_post (bs_selected hC n2 n1) (fun q h1 hq => ?_)
  obtain ⟨rfl, rfl⟩ := hq
  refine ⟨_, _, rfl, hR.oy, jj_Ct_post (rr_selected hR n2 n1) (fun q2 h2 hq2 => ?_)⟩
  obtain ⟨rfl, rfl⟩ := hq2
  exact ⟨rfl, hI0⟩
theorem st_form {w n k : Int32} (hI : IV aC h ca y ad) : jj_Ct l D aC base yn_BS_form yb_BS_form 5 (some .int) 4 0 0 [.ref (ca 0), .int w, .int n, .int k] h (fun q h1 => ∃ v fs, q = some (.int v) ∧ h1 y = some (.inr (9, fs)) ∧ jj_Ct l D aC base yn_MO_form yb_MO_form 5 (some .int) 1 0 0 [.ref y, .int w, .int n, .int k] h1 (fun q2 h2 => q2 = some (.int v) ∧ IV aC h2 ca y ad)) := by
  have hI0 := hI
  obtain ⟨b0, cv, cp, cm, nn, rh, sg, mu, io, bm, nq, nl, lp, fb, fq, fm, hC, hR, hD, hP⟩ := hI
  refine jj_Ct_post (bs_form hC hP.2.1.1 hP.2.1.2 (fun i hi hp => (hP.1 i hi hp).1) (fun r hr => ?_)) (fun q h1 hq => ?_)
  · unfold fm_row at hr
    split at hr
    · next z =>
      obtain ⟨i, hi, hn, hp⟩ := px_at_t (by decide) z.2
      obtain ⟨a1, a2⟩ := hP.1 i hi (px_b_i.mp hp)
      rw [hn, nI_clamp (by omega)] at hr
      cases hr
      refine ⟨(hR.len (by omega)).1, fun q => ?_⟩
      have := congrArg List.length (a1.symm.trans q)
      rw [px_fo_len a2, List.length_nil] at this
      have := (px_pa_i.mp a2).2.1
      omega
    · split at hr
      · next z =>
        obtain ⟨i, f, j0, k0, A, i1, i6, hn, -, q1, q2, -⟩ := IV.q5 hP z.2
        rw [hn, nI_clamp (by omega)] at hr
        cases hr
        obtain ⟨f', j', k', hQ', -⟩ := q1.form 2 (Nat.le_refl _) 0 0 ⟨fun q => (by cases q), fun q => (by cases q)⟩
        exact ⟨(hR.len (by omega)).1, by rw [q2]; exact hQ'.ne⟩
      · split at hr
        · next z =>
          cases hr
          exact ⟨(hR.len (by decide)).1, List.length_pos_iff.mp z.2⟩
        · cases hr
  · obtain ⟨rfl, rfl⟩ := hq
    refine ⟨_, _, rfl, hR.oy, jj_Ct_post (rr_form hR) (fun q2 h2 hq2 => ?_)⟩
    obtain ⟨rfl, rfl⟩ := hq2
    exact ⟨rfl, hI0⟩
end IVB
