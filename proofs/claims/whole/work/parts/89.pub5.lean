/-! The class: a notice; the taken name; find, unregister -/
/-- less of a contract -/
theorem jj_Ct_post {l : Launch} {D : va_G} {aC : Nat → ClassId} {base : Nat} {y : MethodName} {b : ByteArray} {nL : Nat} {ret : Option FieldType} {d mc ms : Nat} {av : List Value} {h : jjHp} {P P' : Option Value → jjHp → Prop} (hM : jj_Ct l D aC base y b nL ret d mc ms av h P) (hi : ∀ q h', P q h' → P' q h') : jj_Ct l D aC base y b nL ret d mc ms av h P' := by
  unfold jj_Ct Met MetFree at hM ⊢
  intro p e h1 h2 h3 s m args below h4 h5 h6 h7
  obtain ⟨n, o, x1, x2, x3, ⟨⟨r, h', y1, y2, y3⟩, y4⟩, y5⟩ := hM p e h1 h2 h3 s m args below h4 h5 h6 h7
  exact ⟨n, o, x1, x2, x3, ⟨⟨r, h', y1, hi r h' y2, y3⟩, y4⟩, y5⟩
section PF
variable {l : Launch} {D : va_G} {aC : Nat → ClassId} {base : Nat} {h h' : jjHp} {r0 b0 : Nat} {ca cv cp cm : Nat → Nat} {nn rh : Nat → List Nat} {sg sg' : Nat → Nat → Int32} {mu : Nat → Int64} {io io' : Nat → Int32} {bm nq nl nl' lp : Nat} {fb fq fm : Nat → Option Nat}
theorem RBs.sgc (hB : RBs aC h b0 r0 cv cp nn sg fb) (e2 : sg' 2 = sg 2) (e3 : sg' 3 = sg 3) (e4 : sg' 4 = sg 4) : RBs aC h b0 r0 cv cp nn sg' fb := by
  unfold RBs RB1
  rw [e2, e3, e4]
  exact hB
theorem RMs.sgc (hM : RMs aC h b0 cm rh sg mu fm) (he : ∀ k, k ∈ [6, 7, 8, 9, 11, 12, 13, 14] → sg' k = sg k) : RMs aC h b0 cm rh sg' mu fm := by
  unfold RMs RM1
  rw [he 6 (by decide), he 7 (by decide), he 8 (by decide), he 9 (by decide), he 11 (by decide), he 12 (by decide), he 13 (by decide), he 14 (by decide)]
  exact hM
/-- other arrays and numbers, the log's apart -/
theorem RC.sgc (hC : RC aC h r0 b0 ca cv cp cm nn rh sg mu io bm nq nl lp fb fq fm) (he : ∀ k, k ∈ [2, 3, 4, 6, 7, 8, 9, 11, 12, 13, 14, 20] → sg' k = sg k) (h19 : io' 19 = io 19) (hL : LGR aC h (ca 6) (fun w => ca (7 + w)) (sg' 18) nl' (io' 15) (io' 16)) : RC aC h r0 b0 ca cv cp cm nn rh sg' mu io' bm nq nl' lp fb fq fm := by
  obtain ⟨hx, hsb, hb, hB, hq, hQ, hm, hM, -, hs, hP⟩ := hC
  refine ⟨by rw [h19]; exact hx, hsb, hb, hB.sgc (he 2 (by decide)) (he 3 (by decide)) (he 4 (by decide)), hq, hQ, hm, hM.sgc (fun k hk => he k ?_), hL, by rw [he 20 (by decide)]; exact hs, hP⟩
  revert hk
  revert k
  decide
/-- behind what changes the log's cells alone -/
theorem RC.logs (hC : RC aC h r0 b0 ca cv cp cm nn rh sg mu io bm nq nl lp fb fq fm) (hA : jA aC) (hf : jj_fr (lg_S (ca 6) (fun w => ca (7 + w))) h h') (he : ∀ k, k ∈ [2, 3, 4, 6, 7, 8, 9, 11, 12, 13, 14, 20] → sg' k = sg k) (h19 : io' 19 = io 19) (hL : LGR aC h' (ca 6) (fun w => ca (7 + w)) (sg' 18) nl' (io' 15) (io' 16)) : RC aC h' r0 b0 ca cv cp cm nn rh sg' mu io' bm nq nl' lp fb fq fm := by
  have hC0 := hC
  have hofb := hC.offb hA
  obtain ⟨fB, fsB, hB0, hB1⟩ := hC.sb
  obtain ⟨hx, hsb, hb, hB, hq, hQ, hm, hM, ⟨nx, F, l1, l2, ho, l4, l5, l6⟩, hs, hP⟩ := hC
  have w0 := l4 0 (by decide)
  have w1 := l4 1 (by decide)
  have w2 := l4 2 (by decide)
  have w3 := l4 3 (by decide)
  have hS : SF aC h r0 b0 (lg_S (ca 6) (fun w => ca (7 + w))) := (((((SF.nil hB0).cons w3 (bz_a hA (by decide) (by decide) (by decide))).cons w2 (bz_a hA (by decide) (by decide) (by decide))).cons w1 (bz_a hA (by decide) (by decide) (by decide))).cons w0 (bz_a hA (by decide) (by decide) (by decide))).cons ho (bz_o (by decide))
  have no : ∀ z, z ≠ ca 6 → (∀ w, w < 4 → z ≠ ca (7 + w)) → z ∉ lg_S (ca 6) (fun w => ca (7 + w)) := by
    intro z a b q
    rcases List.mem_cons.mp q with q | q
    · exact a q
    rcases List.mem_cons.mp q with q | q
    · exact b 0 (by decide) q
    rcases List.mem_cons.mp q with q | q
    · exact b 1 (by decide) q
    rcases List.mem_cons.mp q with q | q
    · exact b 2 (by decide) q
    · exact b 3 (by decide) (List.mem_singleton.mp q)
  have nk : ∀ {z : Nat} {e : va_E}, h z = some e → cK e ≠ 2 → cK e ≠ 216 → z ∉ lg_S (ca 6) (fun w => ca (7 + w)) := by
    intro z e hz k1 k2
    exact no z (co_ne _ 2 hz ho rfl rfl k1) (fun w hw => co_ne _ 216 hz (l4 w hw) rfl rfl k2)
  have hbb : b0 ∉ lg_S (ca 6) (fun w => ca (7 + w)) := no b0 (fun q => by rw [q, ho] at hB0; cases hB0) (fun w hw => cl_ne hA 4 0 (by decide) (by decide) hB0 (l4 w hw) (by decide))
  have hbean : ∀ i, i < 12 → ¬ sg 2 i = 0 → cv i ∉ lg_S (ca 6) (fun w => ca (7 + w)) ∧ cp i ∉ lg_S (ca 6) (fun w => ca (7 + w)) := by
    intro i hi hp
    rcases hB i hi with ⟨q, -⟩ | ⟨-, be, -, pt, V, B, -, -, a3, a4, -⟩
    · exact absurd q hp
    · exact ⟨nk a3 (show (205 : Nat) ≠ 2 by decide) (show (205 : Nat) ≠ 216 by decide), nk a4 (show (205 : Nat) ≠ 2 by decide) (show (205 : Nat) ≠ 216 by decide)⟩
  have hmon : ∀ i, i < 6 → ¬ sg 6 i = 0 → cm i ∉ lg_S (ca 6) (fun w => ca (7 + w)) := by
    intro i hi hp
    rcases hM i hi with ⟨q, -⟩ | ⟨-, -, nm, nmb, -, -, a3⟩
    · exact absurd q hp
    · rcases a3 with ⟨-, T, b2, -⟩ | ⟨-, sd, b2, -⟩
      · exact nk b2 (show (7 : Nat) ≠ 2 by decide) (show (7 : Nat) ≠ 216 by decide)
      · exact nk b2 (show (8 : Nat) ≠ 2 by decide) (show (8 : Nat) ≠ 216 by decide)
  refine ⟨?_, hsb.keep hf (nk hB1 (show (11 : Nat) ≠ 2 by decide) (show (11 : Nat) ≠ 216 by decide)) hbb, hf _ _ (nk hb (show (112 : Nat) ≠ 2 by decide) (show (112 : Nat) ≠ 216 by decide)) hb, (hB.sf hA hS hf hbean).sgc (he 2 (by decide)) (he 3 (by decide)) (he 4 (by decide)), hf _ _ (nk hq (show (106 : Nat) ≠ 2 by decide) (show (106 : Nat) ≠ 216 by decide)) hq, hQ.sf hS hf, hf _ _ (nk hm (show (106 : Nat) ≠ 2 by decide) (show (106 : Nat) ≠ 216 by decide)) hm, (hM.sf hS hf hmon).sgc (fun k hk => he k ?_), hL, ?_, hP.sf hS hf⟩
  · rw [h19]
    exact hf _ _ (nk hx (show (0 : Nat) ≠ 2 by decide) (show (0 : Nat) ≠ 216 by decide)) hx
  · revert hk
    revert k
    decide
  · rw [he 20 (by decide)]
    exact hf _ _ (nk hs (show (212 : Nat) ≠ 2 by decide) (show (212 : Nat) ≠ 216 by decide)) hs
theorem gv_sg_m {k s v : Int32} {j : Nat} (hj : j ≠ 18) : gv_sg sg io k s v j = sg j := by
  unfold gv_sg
  split
  · unfold va_up
    rw [if_neg hj]
  · rfl
/-- a notice -/
theorem bs_give {k s0 v0 : Int32} (hA : jA aC) (hC : RC aC h r0 b0 ca cv cp cm nn rh sg mu io bm nq nl lp fb fq fm) (h17 : io 17 = nI nl) : jj_Ct l D aC base yn_LG_give yb_LG_give 4 none 1 0 0 [.ref (ca 6), .int k, .int s0, .int v0] h (fun q h' => q = none ∧ ∃ nl', RC aC h' r0 b0 ca cv cp cm nn rh (gv_sg sg io k s0 v0) mu (gv_io io k) bm nq nl' lp fb fq fm ∧ gv_io io k 17 = nI nl' ∧ jj_fr (lg_S (ca 6) (fun w => ca (7 + w))) h h') := by
  have hL := hC.2.2.2.2.2.2.2.2.1
  have hnl : nl ≤ 16 := by
    obtain ⟨_, _, -, q, -⟩ := hL
    exact q
  by_cases hg : gv_b io k = true
  · have e1 : gv_sg sg io k s0 v0 18 = gv_log (sg 18) (io 15 + 1) k s0 v0 := by
      unfold gv_sg
      rw [if_pos hg]
      rfl
    have e2 : gv_io io k = upd (upd io 15 (io 15 + 1)) 17 (if io 17 < 16 then io 17 + 1 else 16) := if_pos hg
    have e3 : (if io 17 < 16 then io 17 + 1 else 16) = nI (min (nl + 1) 16) := by
      rw [h17]
      by_cases hlt : nl < 16
      · rw [if_pos (show nI nl < 16 from nI_lt (b := 16) hlt (by decide)), nI_1, Nat.min_eq_left (by omega)]
      · rw [if_neg (show ¬ nI nl < 16 from nI_nlt (b := 16) (by omega) (by omega)), Nat.min_eq_right (by omega)]
        rfl
    refine jj_Ct_post (lg_give_t (k := k) (s0 := s0) (v0 := v0) hL (gv_b_i.mp hg)) ?_
    rintro q h' ⟨rfl, hL', hf⟩
    refine ⟨rfl, min (nl + 1) 16, hC.logs hA hf (fun j hj => gv_sg_m ?_) ?_ ?_, ?_, hf⟩
    · revert hj
      revert j
      decide
    · rw [e2]
      rfl
    · rw [e1, e2]
      exact hL'
    · rw [e2]
      exact e3
  · have e1 : gv_sg sg io k s0 v0 = sg := if_neg hg
    have e2 : gv_io io k = upd io 15 (io 15 + 1) := if_neg hg
    have hg' : (io 16 >>> (k &&& 31)) &&& 1 = 0 := Classical.not_not.mp (fun q => hg (gv_b_i.mpr q))
    refine jj_Ct_post (lg_give_f (k := k) (s0 := s0) (v0 := v0) hL hg') ?_
    rintro q h' ⟨rfl, hL', hf⟩
    refine ⟨rfl, nl, hC.logs hA hf (fun j hj => gv_sg_m ?_) ?_ ?_, ?_, hf⟩
    · revert hj
      revert j
      decide
    · rw [e2]
      rfl
    · rw [e1, e2]
      exact hL'
    · rw [e2]
      exact h17
end PF
