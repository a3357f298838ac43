/-! The class's public methods: find, unregister -/
section PG
variable {l : Launch} {D : va_G} {aC : Nat → ClassId} {base : Nat} {h h' : jjHp} {r0 b0 : Nat} {ca cv cp cm : Nat → Nat} {nn rh : Nat → List Nat} {sg : Nat → Nat → Int32} {mu : Nat → Int64} {io : Nat → Int32} {bm nq nl lp : Nat} {fb fq fm : Nat → Option Nat}
/-- the buffer is taken -/
theorem RC.taken (hC : RC aC h r0 b0 ca cv cp cm nn rh sg mu io bm nq nl lp fb fq fm) (hA : jA aC) (hnq : nq ≤ 6) (hf : jj_fr [ca 1] h h') (hs' : kx_SB aC h' (ca 1) b0 bm []) : RC aC h' r0 b0 ca cv cp cm nn (jr_up rh 33 []) sg mu io bm nq nl lp fb fq fm := by
  have hC0 := hC
  obtain ⟨fB, fsB, hB0, hB1⟩ := hC.sb
  have hkd := hC.kinds
  obtain ⟨hx, hsb, hb, hB, hq, hQ, hm, hM, hL, hs, hP⟩ := hC
  have hof := hC0.off hB1 (show (11 : Nat) ≠ 205 by decide) ⟨show (11 : Nat) ≠ 7 by decide, show (11 : Nat) ≠ 8 by decide⟩
  have hS : SF aC h r0 b0 [ca 1] := (SF.nil hB0).cons hB1 (bz_o (by decide))
  have m1 : ∀ c, c ≠ ca 1 → c ∉ [ca 1] := fun c hc q => hc (List.mem_singleton.mp q)
  have no1 : ∀ k, k < 12 → k ≠ 2 → k ≠ 1 → ca k ∉ [ca 1] := by
    intro k hk h2 h1
    obtain ⟨e, he, hce⟩ := hkd k hk h2
    refine m1 _ (co_ne _ 11 he hB1 hce rfl ?_)
    rw [if_neg h1]
    split
    · decide
    · split
      · decide
      · split
        · decide
        · split
          · decide
          · split
            · decide
            · split <;> decide
  exact ⟨hf _ _ (no1 0 (by decide) (by decide) (by decide)) hx, by rw [jr_up_s]; exact hs', hf _ _ (no1 3 (by decide) (by decide) (by decide)) hb, hB.sf hA hS hf (fun i hi hp => ⟨m1 _ (hof.1 i hi hp).1, m1 _ (hof.1 i hi hp).2⟩), hf _ _ (no1 4 (by decide) (by decide) (by decide)) hq, (hQ.sf hS hf).cg (fun i hi => jr_up_n (by omega)), hf _ _ (no1 5 (by decide) (by decide) (by decide)) hm, (hM.sf hS hf (fun i hi hp => m1 _ (hof.2 i hi hp))).cg (fun i hi => jr_up_n (by omega)), hL.sf hf (no1 6 (by decide) (by decide) (by decide)) (fun w hw => no1 (7 + w) (by omega) (by omega) (by omega)), hf _ _ (no1 11 (by decide) (by decide) (by decide)) hs, (hP.sf hS hf).cg (jr_up_n (by decide))⟩
/-- another array of beans -/
theorem RC.beans (hC : RC aC h r0 b0 ca cv cp cm nn rh sg mu io bm nq nl lp fb fq fm) (hA : jA aC) {fb' : Nat → Option Nat} : RBs aC (jj_up h (ca 3) (rfA (aC 5) 12 fb')) b0 r0 cv cp nn sg fb ∧ (∀ {sg' : Nat → Nat → Int32} {cv' cp' : Nat → Nat} {nn' : Nat → List Nat}, (∀ k, k ∈ [6, 7, 8, 9, 11, 12, 13, 14, 18, 20] → sg' k = sg k) → RBs aC (jj_up h (ca 3) (rfA (aC 5) 12 fb')) b0 r0 cv' cp' nn' sg' fb' → RC aC (jj_up h (ca 3) (rfA (aC 5) 12 fb')) r0 b0 ca cv' cp' cm nn' rh sg' mu io bm nq nl lp fb' fq fm) := by
  have hC0 := hC
  obtain ⟨fB, fsB, hB0, hB1⟩ := hC.sb
  obtain ⟨hx, hsb, hb, hB, hq, hQ, hm, hM, ⟨nx, F, l1, l2, ho, l4, l5, l6⟩, hs, hP⟩ := hC
  have hof := hC0.off hb (show (112 : Nat) ≠ 205 by decide) ⟨show (112 : Nat) ≠ 7 by decide, show (112 : Nat) ≠ 8 by decide⟩
  have hS : SF aC h r0 b0 [ca 3] := (SF.nil hB0).cons hb (bz_a hA (by decide) (by decide) (by decide))
  have m1 : ∀ c, c ≠ ca 3 → c ∉ [ca 3] := fun c hc q => hc (List.mem_singleton.mp q)
  have hf : jj_fr [ca 3] h (jj_up h (ca 3) (rfA (aC 5) 12 fb')) := jj_fr.rf.up (Or.inl List.mem_cons_self)
  refine ⟨hB.sf hA hS hf (fun i hi hp => ⟨m1 _ (hof.1 i hi hp).1, m1 _ (hof.1 i hi hp).2⟩), ?_⟩
  intro sg' cv' cp' nn' he hB'
  refine ⟨hf _ _ (m1 _ (co_ne 0 112 hx hb rfl rfl (by decide))) hx, hsb.keep hf (m1 _ (co_ne 11 112 hB1 hb rfl rfl (by decide))) (m1 _ (cl_ne hA 4 5 (by decide) (by decide) hB0 hb (by decide))), jj_up_s, hB', hf _ _ (m1 _ (co_ne 106 112 hq hb rfl rfl (by decide))) hq, hQ.sf hS hf, hf _ _ (m1 _ (co_ne 106 112 hm hb rfl rfl (by decide))) hm, (hM.sf hS hf (fun i hi hp => m1 _ (hof.2 i hi hp))).sgc (fun k hk => he k ?_), ⟨nx, F, l1, l2, hf _ _ (m1 _ (co_ne 2 112 ho hb rfl rfl (by decide))) ho, fun w hw => hf _ _ (m1 _ (co_ne 216 112 (l4 w hw) hb rfl rfl (by decide))) (l4 w hw), l5, by rw [he 18 (by decide)]; exact l6⟩, by rw [he 20 (by decide)]; exact hf _ _ (m1 _ (co_ne 212 112 hs hb rfl rfl (by decide))) hs, hP.sf hS hf⟩
  revert hk
  revert k
  decide
theorem px_bw_up {th : Nat → Int32} {u t9 : List Nat} : px_bw th (jr_up rh 33 u) t9 12 0 = px_bw th rh t9 12 0 := px_bw_cg (rh := rh) 12 0 (fun i hi => jr_up_n (by omega))
theorem bs_find {er : va_E} (hA : jA aC) (hC : RC aC h r0 b0 ca cv cp cm nn rh sg mu io bm nq nl lp fb fq fm) (hnq : nq ≤ 6) (hlen : (rh 33).length ≤ 60) (hr0 : h r0 = some er) (hr1 : r0 ≠ ca 1) (hnn : ∀ i, i < 12 → ¬ sg 2 i = 0 → rh i = px_fo (nn i) ∧ (rh i).length ≤ 60) : jj_Ct l D aC base yn_BS_find yb_BS_find 2 (some .int) 11 71 9504 [.ref (ca 0)] h (fun q h' => q = some (.int (px_fd (sg 2) rh (rh 33))) ∧ RC aC h' r0 b0 ca cv cp cm nn (jr_up rh 33 []) sg mu io bm nq nl lp fb fq fm ∧ jj_fr [ca 1] h h') := by
  have hx := hC.1
  have hsb := hC.2.1
  refine jj_start (tb := tb_BS_find) (by decide) tg_BS_find (Nat.le_of_ble_eq_true rfl) ?_
  intro p e s m args below meth cc C
  refine jj_go C 1 rfl ?_
  refine jj_callV C rfl ml_BS_66 wd_245 hx rfl se_BS_BS_takenName (bs_takenName2 (r0 := r0) hr0 hr1 hx rfl hsb hlen) (rest := []) rfl rfl ⟨Nat.le_of_ble_eq_true rfl, Nat.le_of_ble_eq_true rfl⟩ (Nat.le_of_ble_eq_true rfl) (Nat.le_of_ble_eq_true rfl) (Nat.le_of_ble_eq_true rfl) ?_
  rintro q9 h1 ⟨hf1, hs1, hr⟩
  have hC1 := hC.taken hA hnq hf1 hs1
  have hx1 := hC1.1
  unfold px_fd px_who
  rcases hr with ⟨hrd, pt, rfl, hpt, hok⟩ | ⟨hrd, rfl⟩
  · rw [if_pos hrd, if_pos hrd]
    obtain ⟨-, hpa⟩ := px_fo_rd hrd
    obtain ⟨tx, txb, st, en, Sf, Ef, fm9, fmb9, ⟨p1, -⟩, -, p3, -⟩ := hok
    refine jj_go C 5 rfl ?_
    refine jj_getf C rfl fl_BS_70 p1 rfl ?_
    refine jj_callV C rfl ml_BS_75 wd_474 hx1 rfl se_BS_BS_beanNamed (bs_beanNamed (rh := rh) hx1 hC1.2.2.1 hC1.2.2.2.1 hnn p3 (by rw [px_fo_len hpa]; exact hlen)) (rest := []) rfl rfl ⟨Nat.le_of_ble_eq_true rfl, Nat.le_of_ble_eq_true rfl⟩ (Nat.le_of_ble_eq_true rfl) (Nat.le_of_ble_eq_true rfl) (Nat.le_of_ble_eq_true rfl) ?_
    rintro q9 h9 ⟨rfl, hh9⟩
    rw [hh9]
    refine jj_iret C rfl rfl rfl (Nat.le_of_ble_eq_true rfl) (Nat.le_of_ble_eq_true rfl) ⟨?_, hC1, hf1⟩
    cases px_bw (sg 2) rh (px_fo (rh 33)) 12 0 <;> rfl
  · rw [if_neg (by rw [hrd]; decide), if_neg (by rw [hrd]; decide)]
    refine jj_go C 5 rfl ?_
    exact jj_iret C rfl rfl rfl (Nat.le_of_ble_eq_true rfl) (Nat.le_of_ble_eq_true rfl) ⟨rfl, hC1, hf1⟩
theorem bs_unregister {er : va_E} (hA : jA aC) (hC : RC aC h r0 b0 ca cv cp cm nn rh sg mu io bm nq nl lp fb fq fm) (hnq : nq ≤ 6) (hlen : (rh 33).length ≤ 60) (hr0 : h r0 = some er) (hr1 : r0 ≠ ca 1) (hnn : ∀ i, i < 12 → ¬ sg 2 i = 0 → rh i = px_fo (nn i) ∧ (rh i).length ≤ 60) (h17 : io 17 = nI nl) : jj_Ct l D aC base yn_BS_unregister yb_BS_unregister 3 (some .int) 11 71 9504 [.ref (ca 0)] h (fun q h' => q = some (.int (px_fd (sg 2) rh (rh 33))) ∧ jj_fr ([ca 1, ca 3] ++ lg_S (ca 6) (fun w => ca (7 + w))) h h' ∧ (px_who (sg 2) rh (rh 33) = none → RC aC h' r0 b0 ca cv cp cm nn (jr_up rh 33 []) sg mu io bm nq nl lp fb fq fm) ∧ (∀ b, px_who (sg 2) rh (rh 33) = some b → ∃ nl', RC aC h' r0 b0 ca cv cp cm nn (jr_up rh 33 []) (gv_sg (va_up sg 2 (upd (sg 2) b 0)) io 1 (nI b) 0) mu (gv_io io 1) bm nq nl' lp (va_up fb b none) fq fm ∧ gv_io io 1 17 = nI nl')) := by
  have hx := hC.1
  have hsb := hC.2.1
  have sub1 : ∀ {g g' : jjHp}, jj_fr [ca 1] g g' → jj_fr ([ca 1, ca 3] ++ lg_S (ca 6) (fun w => ca (7 + w))) g g' := fun hf => hf.mono (fun c hc => by rw [List.mem_singleton.mp hc]; simp)
  have sub3 : ∀ {g g' : jjHp}, jj_fr [ca 3] g g' → jj_fr ([ca 1, ca 3] ++ lg_S (ca 6) (fun w => ca (7 + w))) g g' := fun hf => hf.mono (fun c hc => by rw [List.mem_singleton.mp hc]; simp)
  have subL : ∀ {g g' : jjHp}, jj_fr (lg_S (ca 6) (fun w => ca (7 + w))) g g' → jj_fr ([ca 1, ca 3] ++ lg_S (ca 6) (fun w => ca (7 + w))) g g' := fun hf => hf.mono (fun c hc => List.mem_append_right _ hc)
  refine jj_start (tb := tb_BS_unregister) (by decide) tg_BS_unregister (Nat.le_of_ble_eq_true rfl) ?_
  intro p e s m args below meth cc C
  refine jj_go C 1 rfl ?_
  refine jj_callV C rfl ml_BS_66 wd_245 hx rfl se_BS_BS_takenName (bs_takenName2 (r0 := r0) hr0 hr1 hx rfl hsb hlen) (rest := []) rfl rfl ⟨Nat.le_of_ble_eq_true rfl, Nat.le_of_ble_eq_true rfl⟩ (Nat.le_of_ble_eq_true rfl) (Nat.le_of_ble_eq_true rfl) (Nat.le_of_ble_eq_true rfl) ?_
  rintro q9 h1 ⟨hf1, hs1, hr⟩
  have hC1 := hC.taken hA hnq hf1 hs1
  have hx1 := hC1.1
  rcases hr with ⟨hrd, pt, rfl, hpt, hok⟩ | ⟨hrd, rfl⟩
  rotate_left
  · have hwho : px_who (sg 2) rh (rh 33) = none := by
      unfold px_who
      rw [if_neg (by rw [hrd]; decide)]
    have hfd : px_fd (sg 2) rh (rh 33) = -1 := by
      unfold px_fd
      rw [hwho]
      show (if px_rd (rh 33) false = true then (-2 : Int32) else -1) = -1
      rw [hrd]
      rfl
    refine jj_go C 4 rfl ?_
    exact jj_iret C rfl rfl rfl (Nat.le_of_ble_eq_true rfl) (Nat.le_of_ble_eq_true rfl) ⟨by rw [hfd], sub1 hf1, (fun _ => hC1), fun b q => by rw [hwho] at q; cases q⟩
  obtain ⟨-, hpa⟩ := px_fo_rd hrd
  obtain ⟨tx, txb, st, en, Sf, Ef, fm9, fmb9, ⟨p1, -⟩, -, p3, -⟩ := hok
  have hwho : px_who (sg 2) rh (rh 33) = px_bw (sg 2) rh (px_fo (rh 33)) 12 0 := by
    unfold px_who
    rw [if_pos hrd]
  have hfd : px_fd (sg 2) rh (rh 33) = (match px_bw (sg 2) rh (px_fo (rh 33)) 12 0 with | some b => nI b | none => -2) := by
    unfold px_fd
    rw [hwho]
    cases px_bw (sg 2) rh (px_fo (rh 33)) 12 0 with
    | some b => rfl
    | none =>
      show (if px_rd (rh 33) false = true then (-2 : Int32) else -1) = -2
      rw [hrd]
      rfl
  refine jj_go C 5 rfl ?_
  refine jj_getf C rfl fl_BS_70 p1 rfl ?_
  refine jj_callV C rfl ml_BS_75 wd_474 hx1 rfl se_BS_BS_beanNamed (bs_beanNamed (rh := rh) hx1 hC1.2.2.1 hC1.2.2.2.1 hnn p3 (by rw [px_fo_len hpa]; exact hlen)) (rest := []) rfl rfl ⟨Nat.le_of_ble_eq_true rfl, Nat.le_of_ble_eq_true rfl⟩ (Nat.le_of_ble_eq_true rfl) (Nat.le_of_ble_eq_true rfl) (Nat.le_of_ble_eq_true rfl) ?_
  rintro q9 h9 ⟨rfl, hh9⟩
  rw [hh9]
  cases hbw : px_bw (sg 2) rh (px_fo (rh 33)) 12 0 with
  | none =>
    rw [hbw] at hwho hfd
    refine jj_go C 3 rfl ?_
    refine jj_if C rfl (fun _ => ?_) (fun z => absurd rfl z)
    refine jj_go C 1 rfl ?_
    exact jj_iret C rfl rfl rfl (Nat.le_of_ble_eq_true rfl) (Nat.le_of_ble_eq_true rfl) ⟨by rw [hfd], sub1 hf1, (fun _ => hC1), fun b q => by rw [hwho] at q; cases q⟩
  | some b =>
    rw [hbw] at hwho hfd
    have hlt := px_bw_lt 12 0 hbw
    have hb12 : b < 12 := by omega
    refine jj_go C 3 rfl ?_
    refine jj_if C rfl (fun z => absurd z (fun q => absurd (show nI b < 0 by rw [show nI b = -2 from q]; decide) (nI_pos (by omega)))) (fun _ => ?_)
    refine jj_go C 1 rfl ?_
    refine jj_getf C rfl fl_BS_18 hx1 rfl ?_
    refine jj_go C 2 rfl ?_
    refine jj_aastN C 5 (n := 12) (f := fb) (j := b) rfl hC1.2.2.1 rfl rfl hb12 (by decide) ?_
    obtain ⟨kB, mk⟩ := hC1.beans hA (fb' := va_up fb b none)
    have hf2 : jj_fr [ca 3] h1 (jj_up h1 (ca 3) (rfA (aC 5) 12 (va_up fb b none))) := jj_fr.rf.up (Or.inl List.mem_cons_self)
    have hC2 := mk (sg' := va_up sg 2 (upd (sg 2) b 0)) (cv' := cv) (cp' := cp) (nn' := nn) (fun k hk => by revert hk; revert k; intro k hk; unfold va_up; rw [if_neg (by intro q; rw [q] at hk; revert hk; decide)]) (by
      intro i hi
      by_cases hib : i = b
      · refine Or.inl ⟨?_, ?_⟩
        · show upd (sg 2) b 0 i = 0
          unfold upd
          rw [if_pos hib]
        · unfold va_up
          rw [if_pos hib]
      · have e2 : va_up sg 2 (upd (sg 2) b 0) 2 i = sg 2 i := by
          show upd (sg 2) b 0 i = _
          unfold upd
          rw [if_neg hib]
        have ef : va_up fb b none i = fb i := by
          unfold va_up
          rw [if_neg hib]
        rw [e2, ef]
        exact kB i hi)
    refine jj_eq (h' := jj_up h1 (ca 3) (rfA (aC 5) 12 (va_up fb b none))) rfl rfl rfl rfl ?_
    generalize jj_up h1 (ca 3) (rfA (aC 5) 12 (va_up fb b none)) = h2 at hf2 hC2 ⊢
    have hL2 := hC2.2.2.2.2.2.2.2.2.1
    obtain ⟨nx, F, -, -, ho2, -⟩ := hL2
    refine jj_go C 1 rfl ?_
    refine jj_getf C rfl fl_BS_41 hC2.1 rfl ?_
    refine jj_go C 3 rfl ?_
    refine jj_callV C rfl ml_BS_85 wd_510 ho2 rfl se_LG_LG_give (bs_give (k := 1) (s0 := nI b) (v0 := 0) hA hC2 h17) (rest := []) rfl rfl ⟨Nat.le_of_ble_eq_true rfl, Nat.le_of_ble_eq_true rfl⟩ (Nat.le_of_ble_eq_true rfl) (Nat.le_of_ble_eq_true rfl) (Nat.le_of_ble_eq_true rfl) ?_
    rintro q9 h3 ⟨rfl, nl3, hC3, h173, hf3⟩
    refine jj_go C 1 rfl ?_
    refine jj_iret C rfl rfl rfl (Nat.le_of_ble_eq_true rfl) (Nat.le_of_ble_eq_true rfl) ⟨by rw [hfd], ((sub1 hf1).tr (sub3 hf2)).tr (subL hf3), (fun q => by rw [hwho] at q; cases q), fun b' q => ?_⟩
    rw [hwho] at q
    cases q
    exact ⟨nl3, hC3, h173⟩
end PG
