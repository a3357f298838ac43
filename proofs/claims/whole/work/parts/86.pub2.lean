/-! The class's public methods: write, set, unset -/
section PC0
variable {aC : Nat → ClassId} {h h' : jjHp} {r0 b0 : Nat} {S : List Nat} {ca cv cp cm : Nat → Nat} {nn rh rh' : Nat → List Nat} {sg : Nat → Nat → Int32} {mu : Nat → Int64} {io : Nat → Int32} {bm nq nl lp : Nat} {fb fq fm : Nat → Option Nat}
theorem RQs.cg (hq : RQs aC h b0 rh nq fq) (he : ∀ i, i < nq → rh' (24 + i) = rh (24 + i)) : RQs aC h b0 rh' nq fq := by
  intro i hi
  obtain ⟨qo, tx, txb, a1, a2, a3, a4⟩ := hq i hi
  exact ⟨qo, tx, txb, a1, a2, by rw [he i hi]; exact a3, a4⟩
theorem RMs.cg (hm : RMs aC h b0 cm rh sg mu fm) (he : ∀ i, i < 6 → rh' (12 + i) = rh (12 + i)) : RMs aC h b0 cm rh' sg mu fm := by
  intro i hi
  rcases hm i hi with q | ⟨q, q1, nm, nmb, a1, a2, a3⟩
  · exact Or.inl q
  · exact Or.inr ⟨q, q1, nm, nmb, by rw [he i hi]; exact a1, a2, a3⟩
theorem RP.cg (hp : RP aC h b0 rh lp) (he : rh' 30 = rh 30) : RP aC h b0 rh' lp := by
  unfold RP
  rw [he]
  exact hp
/-- nothing of the class's lies in S -/
theorem RC.keep (hC : RC aC h r0 b0 ca cv cp cm nn rh sg mu io bm nq nl lp fb fq fm) (hA : jA aC) (hS : SF aC h r0 b0 S) (hf : jj_fr S h h') (hk : ∀ k, k < 12 → k ≠ 2 → ca k ∉ S) (hb : b0 ∉ S) (h1 : ∀ i, i < 12 → ¬ sg 2 i = 0 → cv i ∉ S ∧ cp i ∉ S) (h2 : ∀ i, i < 6 → ¬ sg 6 i = 0 → cm i ∉ S) : RC aC h' r0 b0 ca cv cp cm nn rh sg mu io bm nq nl lp fb fq fm := by
  obtain ⟨hx, hsb, hb3, hB, hq, hQ, hm, hM, hL, hs, hP⟩ := hC
  exact ⟨hf _ _ (hk 0 (by decide) (by decide)) hx, hsb.keep hf (hk 1 (by decide) (by decide)) hb, hf _ _ (hk 3 (by decide) (by decide)) hb3, hB.sf hA hS hf h1, hf _ _ (hk 4 (by decide) (by decide)) hq, hQ.sf hS hf, hf _ _ (hk 5 (by decide) (by decide)) hm, hM.sf hS hf h2, hL.sf hf (hk 6 (by decide) (by decide)) (fun w hw => hk (7 + w) (by omega) (by omega)), hf _ _ (hk 11 (by decide) (by decide)) hs, hP.sf hS hf⟩
/-- the kinds of the class's cells -/
theorem RC.kinds (hC : RC aC h r0 b0 ca cv cp cm nn rh sg mu io bm nq nl lp fb fq fm) : ∀ k, k < 12 → k ≠ 2 → ∃ e, h (ca k) = some e ∧ cK e = (if k = 0 then 0 else if k = 1 then 11 else if k = 3 then 112 else if k = 4 then 106 else if k = 5 then 106 else if k = 6 then 2 else if k = 11 then 212 else 216) := by
  obtain ⟨f, fs, -, hs1⟩ := hC.sb
  obtain ⟨hx, hsb, hb3, hB, hq, hQ, hm, hM, ⟨nx, F, l1, l2, ho, l4, l5, l6⟩, hs, hP⟩ := hC
  intro k hk h2
  by_cases k0 : k = 0
  · subst k0; exact ⟨_, hx, rfl⟩
  by_cases k1 : k = 1
  · subst k1; exact ⟨_, hs1, rfl⟩
  by_cases k3 : k = 3
  · subst k3; exact ⟨_, hb3, rfl⟩
  by_cases k4 : k = 4
  · subst k4; exact ⟨_, hq, rfl⟩
  by_cases k5 : k = 5
  · subst k5; exact ⟨_, hm, rfl⟩
  by_cases k6 : k = 6
  · subst k6; exact ⟨_, ho, rfl⟩
  by_cases k11 : k = 11
  · subst k11; exact ⟨_, hs, rfl⟩
  obtain ⟨w, rfl⟩ : ∃ w, k = 7 + w := ⟨k - 7, by omega⟩
  refine ⟨_, l4 w (by omega), ?_⟩
  rw [if_neg k0, if_neg k1, if_neg k3, if_neg k4, if_neg k5, if_neg k6, if_neg k11]
  rfl
end PC0
section PC1
variable {l : Launch} {D : va_G} {aC : Nat → ClassId} {base : Nat} {h : jjHp} {r0 b0 : Nat} {ca cv cp cm : Nat → Nat} {nn rh : Nat → List Nat} {sg : Nat → Nat → Int32} {mu : Nat → Int64} {io : Nat → Int32} {bm nq nl lp : Nat} {fb fq fm : Nat → Option Nat}
theorem bs_write {c : Nat} (hA : jA aC) (hC : RC aC h r0 b0 ca cv cp cm nn rh sg mu io bm nq nl lp fb fq fm) (hnq : nq ≤ 6) (hlen : (rh 33).length ≤ 60) (hc : c < 65536) : jj_Ct l D aC base yn_BS_write yb_BS_write 2 (some .boolean) 6 1 142 [.ref (ca 0), .int (nI c)] h (fun q h' => q = some (.int (jb_I (px_write (rh 33) c))) ∧ ∃ b1 bm1, RC aC h' r0 b1 ca cv cp cm nn (if px_write (rh 33) c = true then jr_up rh 33 (rh 33 ++ [c]) else rh) sg mu io bm1 nq nl lp fb fq fm ∧ (b1 = b0 ∨ h b1 = none) ∧ jj_fr [ca 1, b0] h h') := by
  have hC0 := hC
  obtain ⟨fB, fsB, hB0, hB1⟩ := hC.sb
  have hkd := hC.kinds
  obtain ⟨hx, hsb, hb, hB, hq, hQ, hm, hM, hL, hs, hP⟩ := hC
  refine jj_start (tb := tb_BS_write) (by decide) tg_BS_write (Nat.le_of_ble_eq_true rfl) ?_
  intro p e s m args below meth cc C
  have no : px_write (rh 33) c = false → jj_J p l e (jj_rm 6 1 142) s m args below meth cc D base 2 (MQ below (jj_Q D base (fun q h' => q = some (.int (jb_I (px_write (rh 33) c))) ∧ ∃ b1 bm1, RC aC h' r0 b1 ca cv cp cm nn (if px_write (rh 33) c = true then jr_up rh 33 (rh 33 ++ [c]) else rh) sg mu io bm1 nq nl lp fb fq fm ∧ (b1 = b0 ∨ h b1 = none) ∧ jj_fr [ca 1, b0] h h')) args s 1 142 (jj_A base)) 24 [(0, .ref (ca 0)), (1, .int (nI c))] [] h 0 0 := by
    intro hw
    refine jj_go C 1 rfl ?_
    exact jj_iret C rfl rfl rfl (Nat.le_of_ble_eq_true rfl) (Nat.le_of_ble_eq_true rfl) ⟨by rw [hw]; rfl, b0, bm, by rw [hw, if_neg (by decide)]; exact hC0, Or.inl rfl, jj_fr.rf⟩
  refine jj_go C 2 rfl ?_
  refine jj_if C rfl (fun z => ?_) (fun z => ?_)
  · have g := (nI_ltI (a := c) (b := 32) (by omega) (by decide)).mp z
    refine no ?_
    unfold px_write
    rw [Bool.eq_false_iff]
    intro q
    simp only [Bool.and_eq_true, Nat.ble_eq] at q
    omega
  have g : ¬ c < 32 := fun q => z ((nI_ltI (a := c) (b := 32) (by omega) (by decide)).mpr q)
  refine jj_go C 2 rfl ?_
  refine jj_if C rfl (fun z => ?_) (fun z => ?_)
  · have g := (nI_ltI (a := 126) (b := c) (by decide) (by omega)).mp z
    refine no ?_
    unfold px_write
    rw [Bool.eq_false_iff]
    intro q
    simp only [Bool.and_eq_true, Nat.ble_eq] at q
    omega
  have g2 : ¬ 126 < c := fun q => z ((nI_ltI (a := 126) (b := c) (by decide) (by omega)).mpr q)
  refine jj_go C 1 rfl ?_
  refine jj_getf C rfl fl_BS_10 hx rfl ?_
  refine jj_callV C rfl ml_BS_58 wd_138 hB1 rfl se_SB_SB_length (kt_SB_length hsb) (rest := []) rfl rfl ⟨Nat.le_of_ble_eq_true rfl, Nat.le_of_ble_eq_true rfl⟩ (Nat.le_of_ble_eq_true rfl) (Nat.le_of_ble_eq_true rfl) (Nat.le_of_ble_eq_true rfl) ?_
  rintro q9 h9 ⟨rfl, hh9⟩
  rw [hh9]
  refine jj_go C 1 rfl ?_
  refine jj_if C rfl (fun z => ?_) (fun z => ?_)
  rotate_left
  · have g3 : ¬ (rh 33).length < 60 := fun q => z (nI_lt (b := 60) q (by decide))
    refine no ?_
    unfold px_write
    rw [show (rh 33).length = 60 by omega]
    simp
  have g3 := (nI_ltI (a := (rh 33).length) (b := 60) (by omega) (by decide)).mp z
  have hw : px_write (rh 33) c = true := by
    unfold px_write
    simp only [Bool.and_eq_true, Nat.ble_eq, Bool.not_eq_true', beq_eq_false_iff_ne]
    omega
  refine jj_go C 1 rfl ?_
  refine jj_getf C rfl fl_BS_10 hx rfl ?_
  refine jj_go C 1 rfl ?_
  refine jj_callV C rfl ml_BS_62 wd_145 hB1 rfl se_SB_SB_append (kt_SB_append (k := c) hsb (by omega) (by omega)) (rest := []) rfl rfl ⟨Nat.le_of_ble_eq_true rfl, Nat.le_of_ble_eq_true rfl⟩ (Nat.le_of_ble_eq_true rfl) (Nat.le_of_ble_eq_true rfl) (Nat.le_of_ble_eq_true rfl) ?_
  rintro q9 h1 ⟨rfl, b1, m1, hs1, hb1, hf1⟩
  have hS : SF aC h r0 b0 [ca 1, b0] := ((SF.nil hB0).buf).cons hB1 (bz_o (by decide))
  have no2 : ∀ z, z ≠ ca 1 → z ≠ b0 → z ∉ [ca 1, b0] := fun z a b q => by
    rcases List.mem_cons.mp q with q | q
    · exact a q
    · exact b (List.mem_singleton.mp q)
  have hof := hC0.off hB1 (show (11 : Nat) ≠ 205 by decide) ⟨show (11 : Nat) ≠ 7 by decide, show (11 : Nat) ≠ 8 by decide⟩
  have hofb := hC0.offb hA
  have nob : ∀ k, k < 12 → k ≠ 2 → ca k ≠ b0 := by
    intro k hk h2 q
    by_cases k11 : k = 11
    · subst k11
      exact cl_ne hA 0 4 (by decide) (by decide) hs hB0 (by decide) q
    by_cases k7 : 7 ≤ k ∧ k < 11
    · obtain ⟨w, rfl⟩ : ∃ w, k = 7 + w := ⟨k - 7, by omega⟩
      obtain ⟨nx, F, -, -, -, l4, -⟩ := hL
      exact cl_ne hA 0 4 (by decide) (by decide) (l4 w (by omega)) hB0 (by decide) q
    · by_cases k3 : k = 3
      · subst k3
        exact cl_ne hA 5 4 (by decide) (by decide) hb hB0 (by decide) q
      by_cases k4 : k = 4
      · subst k4
        exact cl_ne hA 6 4 (by decide) (by decide) hq hB0 (by decide) q
      by_cases k5 : k = 5
      · subst k5
        exact cl_ne hA 7 4 (by decide) (by decide) hm hB0 (by decide) q
      obtain ⟨e, he, hce⟩ := hkd k hk h2
      rw [q, hB0] at he
      cases he
      have hce : 200 + bm = _ := hce
      by_cases k0 : k = 0
      · rw [if_pos k0] at hce; omega
      by_cases k1 : k = 1
      · rw [if_neg k0, if_pos k1] at hce; omega
      rw [if_neg k0, if_neg k1, if_neg k3, if_neg k4, if_neg k5, if_pos (show k = 6 by omega)] at hce
      omega
  have no1 : ∀ k, k < 12 → k ≠ 2 → k ≠ 1 → ca k ≠ ca 1 := by
    intro k hk h2 h1
    obtain ⟨e, he, hce⟩ := hkd k hk h2
    refine co_ne _ 11 he hB1 hce rfl ?_
    rw [if_neg h1]
    split
    · decide
    · split
      · decide
      · split
        · decide
        · split
          · decide
          · split
            · decide
            · split <;> decide
  have hS2 := fun k a b c => no2 (ca k) (no1 k a b c) (nob k a b)
  -- the parts, in the new world, with the old place
  have k3 := hf1 _ _ (hS2 3 (by decide) (by decide) (by decide)) hb
  have k4 := hB.sf hA hS hf1 (fun i hi hp => ⟨no2 _ (hof.1 i hi hp).1 (hofb.1 i hi hp).1, no2 _ (hof.1 i hi hp).2 (hofb.1 i hi hp).2⟩)
  have k6 := hQ.sf hS hf1
  have k8 := hM.sf hS hf1 (fun i hi hp => no2 _ (hof.2 i hi hp) (hofb.2 i hi hp))
  have k11 := hP.sf hS hf1
  have reb : RBs aC h1 b1 r0 cv cp nn sg fb ∧ RQs aC h1 b1 rh nq fq ∧ RMs aC h1 b1 cm rh sg mu fm ∧ RP aC h1 b1 rh lp := by
    rcases hb1 with hb1 | hb1
    · rw [hb1]
      exact ⟨k4, k6, k8, k11⟩
    · obtain ⟨r1, r2, r3, r4⟩ := RC.reb hb1 hB hQ hM hP
      obtain ⟨f1, hB01⟩ : ∃ f, h b0 = some (.inl (aC 4, bm, f)) := ⟨_, hB0⟩
      -- the same parts, with the new place, are kept as well
      refine ⟨fun i hi => ?_, fun i hi => ?_, fun i hi => ?_, ?_⟩
      · rcases r1 i hi with q | ⟨q, be, q1, pt, V, B, a1, a2, a3, a4, a5⟩
        · exact Or.inl q
        · rcases k4 i hi with ⟨q9, -⟩ | ⟨-, be', q1', pt', V', B', a1', a2', a3', a4', a5'⟩
          · exact absurd q9 q
          · refine Or.inr ⟨q, be', q1', pt', V', B', a1', ?_, a3', a4', a5'⟩
            rw [q1] at q1'
            cases q1'
            have := hf1 be _ (hS.obj a1 (by omega)) a1
            rw [a1'] at this
            cases this
            obtain ⟨tx, txb, st, en, Sf, Ef, fm9, fmb9, p1, p2, p3, n1, n2, n3, n4⟩ := a2
            obtain ⟨tx', txb', st', en', Sf', Ef', fm9', fmb9', p1', p2', p3', n1', n2', n3', n4'⟩ := a2'
            have ep := hf1 pt _ (hS.obj p1.1 (by omega)) p1.1
            rw [p1'.1] at ep
            cases ep
            refine ⟨tx, txb', st, en, Sf', Ef', fm9, fmb9', p1', p2', p3', ?_, ?_, n3', n4'⟩
            · obtain ⟨_, _, _, o1, o2, -⟩ := p1.2.1
              obtain ⟨_, _, _, o1', o2', -⟩ := p1'.2.1
              have := hf1 tx _ (hS.obj o1 (by omega)) o1
              rw [o1'] at this
              cases this
              exact n1
            · obtain ⟨_, _, _, o1, o2, -⟩ := p3
              obtain ⟨_, _, _, o1', o2', -⟩ := p3'
              have := hf1 fm9 _ (hS.obj o1 (by omega)) o1
              rw [o1'] at this
              cases this
              exact n2
      · obtain ⟨qo, tx, txb, a1, a2, a3, a4⟩ := hQ i hi
        exact ⟨qo, tx, txb, a1, hf1 _ _ (hS.obj a2 (by omega)) a2, a3.sf a4 hS hf1, a3.re hb1⟩
      · rcases hM i hi with q | ⟨q, q1, nm, nmb, a1, a2, a3⟩
        · exact Or.inl q
        · refine Or.inr ⟨q, q1, nm, nmb, a1.sf a2 hS hf1, a1.re hb1, ?_⟩
          have hcm := no2 _ (hof.2 i hi q) (hofb.2 i hi q)
          rcases a3 with ⟨c1, T, c2, c3⟩ | ⟨c1, sd, c2, c3⟩
          · exact Or.inl ⟨c1, T, hf1 _ _ hcm c2, c3⟩
          · exact Or.inr ⟨c1, sd, hf1 _ _ hcm c2, c3⟩
      · rcases hP with q | ⟨q, lpb, q1, q2⟩
        · exact Or.inl q
        · exact Or.inr ⟨q, lpb, q1.sf q2 hS hf1, q1.re hb1⟩
  refine jj_go C 2 rfl ?_
  refine jj_iret C rfl rfl rfl (Nat.le_of_ble_eq_true rfl) (Nat.le_of_ble_eq_true rfl) ⟨by rw [hw]; rfl, b1, m1, ?_, hb1, hf1⟩
  rw [hw, if_pos rfl]
  refine ⟨hf1 _ _ (hS2 0 (by decide) (by decide) (by decide)) hx, by rw [jr_up_s]; exact hs1, k3, reb.1, hf1 _ _ (hS2 4 (by decide) (by decide) (by decide)) hq, reb.2.1.cg (fun i hi => jr_up_n (by omega)), hf1 _ _ (hS2 5 (by decide) (by decide) (by decide)) hm, reb.2.2.1.cg (fun i hi => jr_up_n (by omega)), hL.sf hf1 (hS2 6 (by decide) (by decide) (by decide)) (fun w hw => hS2 (7 + w) (by omega) (by omega) (by omega)), hf1 _ _ (hS2 11 (by decide) (by decide) (by decide)) hs, reb.2.2.2.cg (jr_up_n (by decide))⟩
end PC1
