/-! Each call on both, second half -/
theorem ob_1_io {rh : Nat → List Nat} {m : Nat} {s : obS} : (ob_1 rh m s).2.2 19 = s.2.2 19 ∧ (ob_1 rh m s).2.2 16 = s.2.2 16 := by
  unfold ob_1
  split
  · unfold ob_e
    split
    · exact ⟨gv_io_n (by decide) (by decide), gv_io_n (by decide) (by decide)⟩
    · exact ⟨rfl, rfl⟩
  · split
    · unfold ob_c
      dsimp only
      split
      · exact ⟨gv_io_n (by decide) (by decide), gv_io_n (by decide) (by decide)⟩
      · exact ⟨rfl, rfl⟩
    · unfold ob_g
      split
      · exact ⟨rfl, rfl⟩
      · exact ⟨gv_io_n (by decide) (by decide), gv_io_n (by decide) (by decide)⟩
theorem ob_all_n {rh : Nat → List Nat} : ∀ (k j : Nat) (s : obS), (∀ i, i < 11 → (ob_all rh k j s).1 i = s.1 i) ∧ (ob_all rh k j s).2.2 19 = s.2.2 19
  | 0, _, _ => ⟨fun _ _ => rfl, rfl⟩
  | k + 1, j, s => by
    obtain ⟨a1, a2⟩ := ob_all_n (rh := rh) k (j + 1) (if s.1 6 j ≤ 0 then s else ob_1 rh j s)
    have e : ob_all rh (k + 1) j s = ob_all rh k (j + 1) (if s.1 6 j ≤ 0 then s else ob_1 rh j s) := rfl
    rw [e]
    refine ⟨fun i hi => ?_, ?_⟩
    · rw [a1 i hi]
      split
      · rfl
      · exact ob_1_n hi
    · rw [a2]
      split
      · rfl
      · exact ob_1_io.1
section IVC
variable {l : Launch} {D : va_G} {aC : Nat → ClassId} {base : Nat} {h : jjHp} {y : Nat} {ad ca : Nat → Nat}
theorem st_counter {x att a b : Int32} (hA : jA aC) (h11 : ca 11 ≠ ad 20) (hI : IV aC h ca y ad) : jj_Ct l D aC base yn_BS_counter yb_BS_counter 6 (some .int) 3 1 9 [.ref (ca 0), .int x, .int att, .int a, .int b] h (fun q h1 => ∃ v fs, q = some (.int v) ∧ h1 y = some (.inr (9, fs)) ∧ jj_Ct l D aC base yn_MO_counter yb_MO_counter 5 (some .int) 3 0 0 [.ref y, .int x, .int att, .int a, .int b] h1 (fun q2 h2 => q2 = some (.int v) ∧ IV aC h2 ca y ad)) := by
  have hI0 := hI
  obtain ⟨b0, cv, cp, cm, nn, rh, sg, mu, io, bm, nq, nl, lp, fb, fq, fm, hC, hR, hD, hP⟩ := hI
  by_cases hb : px_at 5 (fun _ => true) att = false ∨ b < 0
  · refine jj_Ct_post (bs_counter_f hb) (fun q h1 hq => ?_)
    obtain ⟨rfl, rfl⟩ := hq
    refine ⟨_, _, rfl, hR.oy, jj_Ct_post (rr_counter_f hb) (fun q2 h2 hq2 => ?_)⟩
    obtain ⟨rfl, rfl⟩ := hq2
    exact ⟨rfl, hI0⟩
  have hat : px_at 5 (fun _ => true) att = true := by
    cases hv : px_at 5 (fun _ => true) att with
    | true => rfl
    | false => exact absurd (Or.inl hv) hb
  have hbb : ¬ b < 0 := fun z => hb (Or.inr z)
  obtain ⟨i, hi, rfl, -⟩ := px_at_t (by decide) hat
  refine jj_Ct_post (bs_counter_t hA hC hD (fun i hi hp => (hP.1 i hi hp).1) hi hbb) (fun q h1 hq => ?_)
  rcases hq with ⟨z, rfl, rfl⟩ | ⟨j, rfl, hj, hp, ⟨z, rfl, rfl⟩ | ⟨m, mo, z, hm, rfl, hC1, hD1, hf1⟩⟩
  · refine ⟨_, _, rfl, hR.oy, jj_Ct_post (rr_counter_t hR hi hbb) (fun q2 h2 hq2 => ?_)⟩
    rcases hq2 with ⟨-, rfl, rfl⟩ | ⟨j, rfl, hj, hp, -⟩
    · exact ⟨rfl, hI0⟩
    · rw [px_at_n hj (by decide)] at z
      exact absurd (px_b_i.mpr hp) (by rw [z]; decide)
  · refine ⟨_, _, rfl, hR.oy, jj_Ct_post (rr_counter_t hR hi hbb) (fun q2 h2 hq2 => ?_)⟩
    rcases hq2 with ⟨z2, -⟩ | ⟨j2, -, -, -, ⟨-, rfl, rfl⟩ | ⟨m, z2, -⟩⟩
    · rw [px_at_n hj (by decide)] at z2
      exact absurd (px_b_i.mpr hp) (by rw [z2]; decide)
    · exact ⟨rfl, hI0⟩
    · rw [z] at z2
      cases z2
  · have hR1 := RR.keepC hA hC hR h11 hf1 (cq_L [5] (by decide))
    refine ⟨_, _, rfl, hR1.oy, jj_Ct_post (rr_counter_t hR1 hi hbb) (fun q2 h2 hq2 => ?_)⟩
    rcases hq2 with ⟨z2, -⟩ | ⟨j2, e2, hj2, -, ⟨z2, -⟩ | ⟨m2, z2, -, rfl, hR2, hf2⟩⟩
    · rw [px_at_n hj (by decide)] at z2
      exact absurd (px_b_i.mpr hp) (by rw [z2]; decide)
    · rw [z] at z2
      cases z2
    · rw [z] at z2
      cases z2
      have e3 : j2 = j := ((nI_eq (by omega) (by omega)).mp e2).symm
      subst e3
      refine ⟨rfl, IV.fin hA h11 hC1 hR1 hf2 hR2.x hD1 ?_⟩
      obtain ⟨p1, p2, p3, p4, p5, p6, p7⟩ := hP
      refine ⟨fun k hk hpk => ?_, p2, fun n hn => ?_, fun k hk hpk => ?_, p5, p6, p7⟩
      · rw [jr_up_n (by omega)]
        exact p1 k hk hpk
      · have := p2.1
        rw [jr_up_n (by omega), jr_up_n (by omega)]
        exact p3 n hn
      · have hpk : ¬ upd (sg 6) m 1 k = 0 := hpk
        show ∃ w, w < 5 ∧ upd (sg 7) m (nI i) k = nI w
        by_cases hkm : k = m
        · subst hkm
          exact ⟨i, hi, upd_at⟩
        · rw [upd_ne hkm] at hpk
          rw [upd_ne hkm]
          exact p4 k hk hpk
theorem st_gauge {x att a b : Int32} (hA : jA aC) (h11 : ca 11 ≠ ad 20) (hI : IV aC h ca y ad) : jj_Ct l D aC base yn_BS_gauge yb_BS_gauge 6 (some .int) 3 1 6 [.ref (ca 0), .int x, .int att, .int a, .int b] h (fun q h1 => ∃ v fs, q = some (.int v) ∧ h1 y = some (.inr (9, fs)) ∧ jj_Ct l D aC base yn_MO_gauge yb_MO_gauge 5 (some .int) 3 0 0 [.ref y, .int x, .int att, .int a, .int b] h1 (fun q2 h2 => q2 = some (.int v) ∧ IV aC h2 ca y ad)) := by
  have hI0 := hI
  obtain ⟨b0, cv, cp, cm, nn, rh, sg, mu, io, bm, nq, nl, lp, fb, fq, fm, hC, hR, hD, hP⟩ := hI
  by_cases hb : px_at 5 (fun _ => true) att = false ∨ ¬ a < b
  · refine jj_Ct_post (bs_gauge_f hb) (fun q h1 hq => ?_)
    obtain ⟨rfl, rfl⟩ := hq
    refine ⟨_, _, rfl, hR.oy, jj_Ct_post (rr_gauge_f hb) (fun q2 h2 hq2 => ?_)⟩
    obtain ⟨rfl, rfl⟩ := hq2
    exact ⟨rfl, hI0⟩
  have hat : px_at 5 (fun _ => true) att = true := by
    cases hv : px_at 5 (fun _ => true) att with
    | true => rfl
    | false => exact absurd (Or.inl hv) hb
  have hbb : a < b := Decidable.not_not.mp (fun z => hb (Or.inr z))
  obtain ⟨i, hi, rfl, -⟩ := px_at_t (by decide) hat
  refine jj_Ct_post (bs_gauge_t hA hC hD (fun i hi hp => (hP.1 i hi hp).1) hi hbb) (fun q h1 hq => ?_)
  rcases hq with ⟨z, rfl, rfl⟩ | ⟨j, rfl, hj, hp, ⟨z, rfl, rfl⟩ | ⟨m, mo, z, hm, rfl, hC1, hD1, hf1⟩⟩
  · refine ⟨_, _, rfl, hR.oy, jj_Ct_post (rr_gauge_t hR hi hbb) (fun q2 h2 hq2 => ?_)⟩
    rcases hq2 with ⟨-, rfl, rfl⟩ | ⟨j, rfl, hj, hp, -⟩
    · exact ⟨rfl, hI0⟩
    · rw [px_at_n hj (by decide)] at z
      exact absurd (px_b_i.mpr hp) (by rw [z]; decide)
  · refine ⟨_, _, rfl, hR.oy, jj_Ct_post (rr_gauge_t hR hi hbb) (fun q2 h2 hq2 => ?_)⟩
    rcases hq2 with ⟨z2, -⟩ | ⟨j2, -, -, -, ⟨-, rfl, rfl⟩ | ⟨m, z2, -⟩⟩
    · rw [px_at_n hj (by decide)] at z2
      exact absurd (px_b_i.mpr hp) (by rw [z2]; decide)
    · exact ⟨rfl, hI0⟩
    · rw [z] at z2
      cases z2
  · have hR1 := RR.keepC hA hC hR h11 hf1 (cq_L [5] (by decide))
    refine ⟨_, _, rfl, hR1.oy, jj_Ct_post (rr_gauge_t hR1 hi hbb) (fun q2 h2 hq2 => ?_)⟩
    rcases hq2 with ⟨z2, -⟩ | ⟨j2, e2, hj2, -, ⟨z2, -⟩ | ⟨m2, z2, -, rfl, hR2, hf2⟩⟩
    · rw [px_at_n hj (by decide)] at z2
      exact absurd (px_b_i.mpr hp) (by rw [z2]; decide)
    · rw [z] at z2
      cases z2
    · rw [z] at z2
      cases z2
      have e3 : j2 = j := ((nI_eq (by omega) (by omega)).mp e2).symm
      subst e3
      refine ⟨rfl, IV.fin hA h11 hC1 hR1 hf2 hR2.x hD1 ?_⟩
      obtain ⟨p1, p2, p3, p4, p5, p6, p7⟩ := hP
      refine ⟨fun k hk hpk => ?_, p2, fun n hn => ?_, fun k hk hpk => ?_, p5, p6, p7⟩
      · rw [jr_up_n (by omega)]
        exact p1 k hk hpk
      · have := p2.1
        rw [jr_up_n (by omega), jr_up_n (by omega)]
        exact p3 n hn
      · have hpk : ¬ upd (sg 6) m 2 k = 0 := hpk
        show ∃ w, w < 5 ∧ upd (sg 7) m (nI i) k = nI w
        by_cases hkm : k = m
        · subst hkm
          exact ⟨i, hi, upd_at⟩
        · rw [upd_ne hkm] at hpk
          rw [upd_ne hkm]
          exact p4 k hk hpk
theorem st_cancel {x : Int32} (hA : jA aC) (h11 : ca 11 ≠ ad 20) (hI : IV aC h ca y ad) : jj_Ct l D aC base yn_BS_cancel yb_BS_cancel 2 (some .boolean) 1 0 0 [.ref (ca 0), .int x] h (fun q h1 => ∃ v fs, q = some (.int v) ∧ h1 y = some (.inr (9, fs)) ∧ jj_Ct l D aC base yn_MO_cancel yb_MO_cancel 2 (some .boolean) 1 0 0 [.ref y, .int x] h1 (fun q2 h2 => q2 = some (.int v) ∧ IV aC h2 ca y ad)) := by
  have hI0 := hI
  obtain ⟨b0, cv, cp, cm, nn, rh, sg, mu, io, bm, nq, nl, lp, fb, fq, fm, hC, hR, hD, hP⟩ := hI
  rcases hC.2.2.2.2.2.2.2.1.at x with ⟨-, hs⟩ | ⟨i, hi, rfl, hp, hp2, -, -⟩
  · refine jj_Ct_post (bs_cancel_f hC hs) (fun q h1 hq => ?_)
    obtain ⟨rfl, rfl⟩ := hq
    refine ⟨_, _, rfl, hR.oy, jj_Ct_post (rr_cancel_f hR hs) (fun q2 h2 hq2 => ?_)⟩
    obtain ⟨rfl, rfl⟩ := hq2
    exact ⟨rfl, hI0⟩
  · refine jj_Ct_post (bs_cancel_t hA hC hi hp) (fun q h1 hq => ?_)
    obtain ⟨rfl, hC1, hf1⟩ := hq
    have hR1 := RR.keepC hA hC hR h11 hf1 (cq_L [5] (by decide))
    refine ⟨_, _, rfl, hR1.oy, jj_Ct_post (rr_cancel_t hR1 hi hp2) (fun q2 h2 hq2 => ?_)⟩
    obtain ⟨rfl, hR2, hf2⟩ := hq2
    have e6 : ∀ k, ¬ upd (sg 6) i 0 k = 0 → ¬ sg 6 k = 0 := fun k hk => by
      unfold upd at hk
      split at hk
      · exact absurd rfl hk
      · exact hk
    refine ⟨rfl, IV.fin hA h11 hC1 hR1 hf2 hR2.x ⟨hD.1, fun a b ha hb pa pb hab => hD.2 a b ha hb (e6 a pa) (e6 b pb) hab⟩ ?_⟩
    obtain ⟨p1, p2, p3, p4, p5, p6, p7⟩ := hP
    exact ⟨p1, p2, p3, fun k hk hpk => p4 k hk (e6 k hpk), p5, p6, p7⟩
theorem st_observe (hA : jA aC) (h11 : ca 11 ≠ ad 20) (hI : IV aC h ca y ad) : jj_Ct l D aC base yn_BS_observe yb_BS_observe 3 (some .int) 4 0 0 [.ref (ca 0)] h (fun q h1 => ∃ v fs, q = some (.int v) ∧ h1 y = some (.inr (9, fs)) ∧ jj_Ct l D aC base yn_MO_observe yb_MO_observe 3 (some .int) 4 0 0 [.ref y] h1 (fun q2 h2 => q2 = some (.int v) ∧ IV aC h2 ca y ad)) := by
  obtain ⟨b0, cv, cp, cm, nn, rh, sg, mu, io, bm, nq, nl, lp, fb, fq, fm, hC, hR, hD, hP⟩ := hI
  refine jj_Ct_post (bs_observe hA hC hD hP.2.2.2.1 (fun m hm _ => (hR.len (by omega)).1) (fun i hi hp => ⟨(hP.1 i hi hp).1, (hR.len (by omega)).1⟩) hP.2.2.2.2.1) (fun q h1 hq => ?_)
  obtain ⟨rfl, nl', hC1, h17, hf1⟩ := hq
  have hR1 := RR.keepC hA hC hR h11 hf1 (fun c hc => by
    rcases ob_S_i hc with q | ⟨i, i1, i2, i3⟩
    · exact cq_l c q
    · exact Or.inr (Or.inr (Or.inr ⟨i, i1, i2, i3⟩)))
  refine ⟨_, _, rfl, hR1.oy, jj_Ct_post (rr_observe hR1 (fun m hm hp => hP.2.2.2.1 m hm (fun q => hp (by rw [q]; decide)))) (fun q2 h2 hq2 => ?_)⟩
  obtain ⟨rfl, hR2, hf2⟩ := hq2
  obtain ⟨a1, a2⟩ := ob_all_n (rh := rh) 6 0 (sg, mu, io)
  refine ⟨rfl, IV.fin hA h11 hC1 hR1 hf2 hR2.x ?_ (hP.cg (fun _ _ => rfl) (fun k hk => a1 k (by revert hk; revert k; decide)) h17 a2)⟩
  unfold RD
  rw [a1 2 (by decide), a1 6 (by decide)]
  exact hD
theorem st_mark {x : Int32} (hI : IV aC h ca y ad) : jj_Ct l D aC base yn_BS_mark yb_BS_mark 3 (some .long) 1 0 0 [.ref (ca 0), .int x] h (fun q h1 => ∃ v fs, q = some (.long v) ∧ h1 y = some (.inr (9, fs)) ∧ jj_Ct l D aC base yn_MO_mark yb_MO_mark 2 (some .long) 1 0 0 [.ref y, .int x] h1 (fun q2 h2 => q2 = some (.long v) ∧ IV aC h2 ca y ad)) := by
  have hI0 := hI
  obtain ⟨b0, cv, cp, cm, nn, rh, sg, mu, io, bm, nq, nl, lp, fb, fq, fm, hC, hR, hD, hP⟩ := hI
  refine jj_Ct_post (bs_mark hC) (fun q h1 hq => ?_)
  obtain ⟨rfl, rfl⟩ := hq
  rcases hC.2.2.2.2.2.2.2.1.at x with ⟨-, hs⟩ | ⟨i, hi, rfl, hp, hp2, -, -⟩
  · refine ⟨_, _, rfl, hR.oy, jj_Ct_post (rr_mark_f hR hs) (fun q2 h2 hq2 => ?_)⟩
    obtain ⟨rfl, rfl⟩ := hq2
    exact ⟨by rw [if_neg (by rw [hs]; decide)], hI0⟩
  · refine ⟨_, _, rfl, hR.oy, jj_Ct_post (rr_mark_t hR hi hp2) (fun q2 h2 hq2 => ?_)⟩
    obtain ⟨rfl, rfl⟩ := hq2
    refine ⟨?_, hI0⟩
    rw [px_at_n hi (by decide), nI_clamp (by omega), if_pos (by simp [hp2])]
theorem st_listen {x : Int32} (hA : jA aC) (h11 : ca 11 ≠ ad 20) (hI : IV aC h ca y ad) : jj_Ct l D aC base yn_BS_listen yb_BS_listen 2 (some .int) 0 0 0 [.ref (ca 0), .int x] h (fun q h1 => ∃ v fs, q = some (.int v) ∧ h1 y = some (.inr (9, fs)) ∧ jj_Ct l D aC base yn_MO_listen yb_MO_listen 2 (some .int) 0 0 0 [.ref y, .int x] h1 (fun q2 h2 => q2 = some (.int v) ∧ IV aC h2 ca y ad)) := by
  obtain ⟨b0, cv, cp, cm, nn, rh, sg, mu, io, bm, nq, nl, lp, fb, fq, fm, hC, hR, hD, hP⟩ := hI
  refine jj_Ct_post (bs_listen (x := x) hA hC) (fun q h1 hq => ?_)
  obtain ⟨rfl, hC1, hf1⟩ := hq
  have hR1 := RR.keepC hA hC hR h11 hf1 (cq_L [6] (by decide))
  refine ⟨_, _, rfl, hR1.oy, jj_Ct_post (rr_listen (x := x) hR1) (fun q2 h2 hq2 => ?_)⟩
  obtain ⟨rfl, hR2, hf2⟩ := hq2
  exact ⟨rfl, IV.fin hA h11 hC1 hR1 hf2 hR2.x hD (hP.cg (fun _ _ => rfl) (fun _ _ => rfl) hP.2.2.2.2.1 rfl)⟩
theorem st_notice {x w : Int32} (hI : IV aC h ca y ad) : jj_Ct l D aC base yn_BS_notice yb_BS_notice 3 (some .int) 2 0 0 [.ref (ca 0), .int x, .int w] h (fun q h1 => ∃ v fs, q = some (.int v) ∧ h1 y = some (.inr (9, fs)) ∧ jj_Ct l D aC base yn_MO_notice yb_MO_notice 3 (some .int) 0 0 0 [.ref y, .int x, .int w] h1 (fun q2 h2 => q2 = some (.int v) ∧ IV aC h2 ca y ad)) := by
  have hI0 := hI
  obtain ⟨b0, cv, cp, cm, nn, rh, sg, mu, io, bm, nq, nl, lp, fb, fq, fm, hC, hR, hD, hP⟩ := hI
  have hnl : nl ≤ 16 := by
    obtain ⟨nx, F, -, q, -⟩ := hC.2.2.2.2.2.2.2.2.1
    exact q
  refine jj_Ct_post (bs_notice hC) (fun q h1 hq => ?_)
  obtain ⟨rfl, rfl⟩ := hq
  refine ⟨_, _, rfl, hR.oy, jj_Ct_post (rr_notice hR hP.2.2.2.2.1 hnl) (fun q2 h2 hq2 => ?_)⟩
  obtain ⟨rfl, rfl⟩ := hq2
  exact ⟨rfl, hI0⟩
end IVC
