/-! The class's public methods: unset, cancel, mark, form -/
theorem mu_BS_190c : jj_MU "BeanServer" 190 "BeanServer$Counter" "BeanServer$Monitor" ⟨"BeanServer$Monitor", "level", "()J"⟩ yn_CT_level yb_CT_level 1 (some .long) 0 := ⟨wd_842, wd_844, wd_845, wd_846, wd_21, wd_847, Or.inr (by decide), by decide +kernel⟩
theorem mu_BS_190g : jj_MU "BeanServer" 190 "BeanServer$Gauge" "BeanServer$Monitor" ⟨"BeanServer$Monitor", "level", "()J"⟩ yn_GA_level yb_GA_level 1 (some .long) 0 := ⟨wd_842, wd_844, wd_848, wd_849, wd_22, wd_850, Or.inr (by decide), by decide +kernel⟩
section PE
variable {l : Launch} {D : va_G} {aC : Nat → ClassId} {base : Nat} {h : jjHp} {r0 b0 : Nat} {ca cv cp cm : Nat → Nat} {nn rh : Nat → List Nat} {sg : Nat → Nat → Int32} {mu : Nat → Int64} {io : Nat → Int32} {bm nq nl lp : Nat} {fb fq fm : Nat → Option Nat}
theorem bs_unset_f {x a : Int32} (hC : RC aC h r0 b0 ca cv cp cm nn rh sg mu io bm nq nl lp fb fq fm) (hs : px_slot (sg 2) x a = false) : jj_Ct l D aC base yn_BS_unset yb_BS_unset 4 (some .boolean) 1 0 0 [.ref (ca 0), .int x, .int a] h (fun q h' => q = some (.int 0) ∧ h' = h) := by
  obtain ⟨hx, -, hb, hB, -⟩ := hC
  refine jj_start (tb := tb_BS_unset) (by decide) tg_BS_unset (Nat.le_of_ble_eq_true rfl) ?_
  intro p e s m args below meth cc C
  refine jj_go C 2 rfl ?_
  refine jj_callV C rfl ml_BS_89 wd_528 hx rfl se_BS_BS_beanAt (bs_beanAt (x := x) hx hb) (rest := []) rfl rfl ⟨Nat.le_of_ble_eq_true rfl, Nat.le_of_ble_eq_true rfl⟩ (Nat.le_of_ble_eq_true rfl) (Nat.le_of_ble_eq_true rfl) (Nat.le_of_ble_eq_true rfl) ?_
  rintro q9 h9 ⟨rfl, hh9⟩
  rw [hh9]
  rcases hB.at x with ⟨q1, q2⟩ | ⟨i, be, hi, hxi, hp, q1, -, q2⟩
  · rw [q1]
    refine jj_go C 4 rfl ?_
    exact jj_iret C rfl rfl rfl (Nat.le_of_ble_eq_true rfl) (Nat.le_of_ble_eq_true rfl) ⟨rfl, rfl⟩
  · rw [q1]
    unfold px_slot at hs
    rw [q2, Bool.true_and] at hs
    refine jj_go C 4 rfl ?_
    refine jj_callS C rfl ml_BS_93 wd_531 (bs_isAttribute (x := a)) (rest := []) rfl rfl ⟨Nat.le_of_ble_eq_true rfl, Nat.le_of_ble_eq_true rfl⟩ (Nat.le_of_ble_eq_true rfl) (Nat.le_of_ble_eq_true rfl) (Nat.le_of_ble_eq_true rfl) ?_
    rintro q9 h9 ⟨rfl, hh9⟩
    rw [hh9]
    rw [hs]
    refine jj_if C rfl (fun _ => ?_) (fun z => absurd rfl z)
    refine jj_go C 1 rfl ?_
    exact jj_iret C rfl rfl rfl (Nat.le_of_ble_eq_true rfl) (Nat.le_of_ble_eq_true rfl) ⟨rfl, rfl⟩
theorem bs_unset_t {i j : Nat} (hA : jA aC) (hC : RC aC h r0 b0 ca cv cp cm nn rh sg mu io bm nq nl lp fb fq fm) (hD : RD sg cv cp cm) (hi : i < 12) (hj : j < 5) (hp : ¬ sg 2 i = 0) : jj_Ct l D aC base yn_BS_unset yb_BS_unset 4 (some .boolean) 1 0 0 [.ref (ca 0), .int (nI i), .int (nI j)] h (fun q h' => q = some (.int (if sg 4 (5 * i + j) = 0 then 0 else 1)) ∧ RC aC h' r0 b0 ca cv cp cm nn rh (va_up sg 4 (upd (sg 4) (5 * i + j) 0)) mu io bm nq nl lp fb fq fm ∧ jj_fr [cp i] h h') := by
  have hC0 := hC
  have hofb := hC.offb hA
  obtain ⟨fB, fsB, hB0, hB1⟩ := hC.sb
  obtain ⟨hx, hsb, hb, hB, hq, hQ, hm, hM, hL, hs, hP⟩ := hC
  obtain ⟨be, hfb, pt, V, B, a1, a2, a3, a4, a5⟩ : ∃ be, fb i = some be ∧ RB1 aC h b0 r0 cv cp nn sg i be := by
    rcases hB i hi with ⟨q, -⟩ | ⟨-, be, q1, q2⟩
    · exact absurd q hp
    · exact ⟨be, q1, q2⟩
  have hS : SF aC h r0 b0 [cp i] := (SF.nil hB0).cons a4 (bz_a hA (by decide) (by decide) (by decide))
  have c2 := hC0.ca_ne a4 (by show (205 : Nat) ≠ 0 ∧ (205 : Nat) ≠ 11 ∧ (205 : Nat) ≠ 112 ∧ (205 : Nat) ≠ 106 ∧ (205 : Nat) ≠ 2 ∧ (205 : Nat) ≠ 212 ∧ (205 : Nat) ≠ 216; decide)
  have no2 : ∀ z, z ≠ cp i → z ∉ [cp i] := fun z a q => a (List.mem_singleton.mp q)
  have hca := fun k a b => no2 (ca k) (c2 k a b)
  obtain ⟨v1, v2⟩ := a5 j hj
  refine jj_start (tb := tb_BS_unset) (by decide) tg_BS_unset (Nat.le_of_ble_eq_true rfl) ?_
  intro p e s m args below meth cc C
  refine jj_go C 2 rfl ?_
  refine jj_callV C rfl ml_BS_89 wd_528 hx rfl se_BS_BS_beanAt (bs_beanAt (x := nI i) hx hb) (rest := []) rfl rfl ⟨Nat.le_of_ble_eq_true rfl, Nat.le_of_ble_eq_true rfl⟩ (Nat.le_of_ble_eq_true rfl) (Nat.le_of_ble_eq_true rfl) (Nat.le_of_ble_eq_true rfl) ?_
  rintro q9 h9 ⟨rfl, hh9⟩
  rw [hh9]
  rw [bs_at_n hi (by decide), hfb]
  refine jj_go C 4 rfl ?_
  refine jj_callS C rfl ml_BS_93 wd_531 (bs_isAttribute (x := nI j)) (rest := []) rfl rfl ⟨Nat.le_of_ble_eq_true rfl, Nat.le_of_ble_eq_true rfl⟩ (Nat.le_of_ble_eq_true rfl) (Nat.le_of_ble_eq_true rfl) (Nat.le_of_ble_eq_true rfl) ?_
  rintro q9 h9 ⟨rfl, hh9⟩
  rw [hh9]
  rw [px_at_n hj (by decide)]
  refine jj_if C rfl (fun z => absurd z (by decide)) (fun _ => ?_)
  refine jj_go C 1 rfl ?_
  refine jj_getf C rfl fl_BS_100 a1 rfl ?_
  refine jj_go C 1 rfl ?_
  refine jj_zald C (n := 5) (f := B) rfl a4 rfl hj (by decide) ?_
  refine jj_if C rfl (fun z => ?_) (fun z => ?_)
  · rw [v2] at z
    have hsame : va_up sg 4 (upd (sg 4) (5 * i + j) 0) = sg := by
      have : upd (sg 4) (5 * i + j) 0 = sg 4 := by
        funext k
        unfold upd
        split
        next q => rw [q, z]
        next => rfl
      rw [this, rr_up_same]
    refine jj_go C 1 rfl ?_
    exact jj_iret C rfl rfl rfl (Nat.le_of_ble_eq_true rfl) (Nat.le_of_ble_eq_true rfl) ⟨by rw [if_pos z], by rw [hsame]; exact hC0, jj_fr.rf⟩
  · rw [v2] at z
    refine jj_go C 1 rfl ?_
    refine jj_getf C rfl fl_BS_100 a1 rfl ?_
    refine jj_go C 2 rfl ?_
    refine jj_zast C (n := 5) (f := B) (j := j) rfl a4 rfl hj (by decide) ?_
    have hf2 : jj_fr [cp i] h (jj_up h (cp i) (.inl (aC 1, 5, .inl (upd B j 0)))) := jj_fr.rf.up (Or.inl List.mem_cons_self)
    have a42 : jj_up h (cp i) (.inl (aC 1, 5, .inl (upd B j 0))) (cp i) = some (.inl (aC 1, 5, .inl (upd B j 0))) := jj_up_s
    refine jj_eq (h' := jj_up h (cp i) (.inl (aC 1, 5, .inl (upd B j 0)))) rfl rfl rfl rfl ?_
    generalize jj_up h (cp i) (.inl (aC 1, 5, .inl (upd B j 0))) = h2 at hf2 a42 ⊢
    refine jj_go C 1 rfl ?_
    refine jj_iret C rfl rfl rfl (Nat.le_of_ble_eq_true rfl) (Nat.le_of_ble_eq_true rfl) ⟨by rw [if_neg z], ⟨hf2 _ _ (hca 0 (by decide) (by decide)) hx, hsb.keep hf2 (hca 1 (by decide) (by decide)) (no2 _ (Ne.symm (hofb.1 i hi hp).2)), hf2 _ _ (hca 3 (by decide) (by decide)) hb, ?_, hf2 _ _ (hca 4 (by decide) (by decide)) hq, hQ.sf hS hf2, hf2 _ _ (hca 5 (by decide) (by decide)) hm, hM.sf hS hf2 (fun k hk hl => no2 _ (hC0.cm_ne a4 ⟨show (205 : Nat) ≠ 7 by decide, show (205 : Nat) ≠ 8 by decide⟩ k hk hl)), hL.sf hf2 (hca 6 (by decide) (by decide)) (fun w hw => hca (7 + w) (by omega) (by omega)), hf2 _ _ (hca 11 (by decide) (by decide)) hs, hP.sf hS hf2⟩, hf2⟩
    intro k hk
    show (sg 2 k = 0 ∧ fb k = none) ∨ (¬ sg 2 k = 0 ∧ _)
    rcases hB k hk with q | ⟨q, be', q1, pt', V', B', b1, b2, b3, b4, b5⟩
    · exact Or.inl q
    · right
      refine ⟨q, be', q1, ?_⟩
      have e1 : cv k ≠ cp i := cl_ne hA 0 1 (by decide) (by decide) b3 a4 (by decide)
      by_cases hki : k = i
      · subst hki
        rw [hfb] at q1
        cases q1
        rw [a1] at b1
        cases b1
        refine ⟨pt, V', upd B j 0, hf2 _ _ (hS.obj a1 (by omega)) a1, a2.sf hA hS hf2, hf2 _ _ (no2 _ e1) b3, a42, fun a ha => ?_⟩
        obtain ⟨w1, w2⟩ := a5 a ha
        obtain ⟨w3, -⟩ := b5 a ha
        show V' a = sg 3 (5 * k + a) ∧ upd B j 0 a = upd (sg 4) (5 * k + j) 0 (5 * k + a)
        unfold upd
        by_cases haj : a = j
        · rw [if_pos haj, if_pos (by omega)]
          exact ⟨w3, rfl⟩
        · rw [if_neg haj, if_neg (by omega)]
          exact ⟨w3, w2⟩
      · obtain ⟨-, d2⟩ := hD.1 k i hk hi q hp hki
        refine ⟨pt', V', B', hf2 _ _ (hS.obj b1 (by omega)) b1, b2.sf hA hS hf2, hf2 _ _ (no2 _ e1) b3, hf2 _ _ (no2 _ d2) b4, fun a ha => ?_⟩
        obtain ⟨w1, w2⟩ := b5 a ha
        show V' a = sg 3 (5 * k + a) ∧ B' a = upd (sg 4) (5 * i + j) 0 (5 * k + a)
        unfold upd
        rw [if_neg (by omega)]
        exact ⟨w1, w2⟩
theorem RM1.kind {i : Nat} (hm : RM1 aC h b0 cm rh sg mu i) : sg 6 i = 1 ∨ sg 6 i = 2 := by
  obtain ⟨_, _, -, -, q⟩ := hm
  rcases q with ⟨q, -⟩ | ⟨q, -⟩
  · exact Or.inl q
  · exact Or.inr q
theorem RMs.at (hM : RMs aC h b0 cm rh sg mu fm) (x : Int32) : (bs_at fm 6 x = none ∧ px_at 6 (fun j => !(decide (sg 6 j ≤ 0))) x = false) ∨ ∃ i, i < 6 ∧ x = nI i ∧ ¬ sg 6 i = 0 ∧ ¬ sg 6 i ≤ 0 ∧ bs_at fm 6 x = some (cm i) ∧ RM1 aC h b0 cm rh sg mu i := by
  by_cases h0 : x < 0
  · exact Or.inl ⟨if_pos h0, px_at_neg h0⟩
  obtain ⟨j, hj, rfl⟩ := nI_of h0
  by_cases h6 : j < 6
  · rcases hM j h6 with ⟨q1, q2⟩ | ⟨q1, q2, q3⟩
    · refine Or.inl ⟨by rw [bs_at_n h6 (by decide), q2], ?_⟩
      rw [px_at_n h6 (by decide), q1]
      decide
    · refine Or.inr ⟨j, h6, rfl, q1, ?_, by rw [bs_at_n h6 (by decide), q2], q3⟩
      rcases q3.kind with q | q <;> rw [q] <;> decide
  · have hge : nI 6 ≤ nI j := nI_le (by omega) hj
    refine Or.inl ⟨?_, px_at_ge hge⟩
    unfold bs_at
    rw [if_neg h0, if_pos hge]
theorem bs_mark {x : Int32} (hC : RC aC h r0 b0 ca cv cp cm nn rh sg mu io bm nq nl lp fb fq fm) : jj_Ct l D aC base yn_BS_mark yb_BS_mark 3 (some .long) 1 0 0 [.ref (ca 0), .int x] h (fun q h' => q = some (.long (if px_at 6 (fun j => !(decide (sg 6 j ≤ 0))) x = true then mu x.toNatClampNeg else 0)) ∧ h' = h) := by
  obtain ⟨hx, -, -, -, -, -, hm, hM, -⟩ := hC
  refine jj_start (tb := tb_BS_mark) (by decide) tg_BS_mark (Nat.le_of_ble_eq_true rfl) ?_
  intro p e s m args below meth cc C
  refine jj_go C 2 rfl ?_
  refine jj_callV C rfl ml_BS_179 wd_815 hx rfl se_BS_BS_monitorAt (bs_monitorAt (x := x) hx hm) (rest := []) rfl rfl ⟨Nat.le_of_ble_eq_true rfl, Nat.le_of_ble_eq_true rfl⟩ (Nat.le_of_ble_eq_true rfl) (Nat.le_of_ble_eq_true rfl) (Nat.le_of_ble_eq_true rfl) ?_
  rintro q9 h9 ⟨rfl, hh9⟩
  rw [hh9]
  rcases hM.at x with ⟨q1, q2⟩ | ⟨i, hi, hxi, hp, hp2, q1, nm, nmb, -, -, q3⟩
  · rw [q1, q2]
    refine jj_go C 5 rfl ?_
    exact jj_lret C rfl rfl (Nat.le_refl _) (Nat.le_refl _) ⟨rfl, rfl⟩
  · rw [q1]
    subst hxi
    rw [px_at_n hi (by decide), nI_clamp (by omega), if_pos (by simp [hp2])]
    refine jj_go C 4 rfl ?_
    rcases q3 with ⟨c1, T, c2, c3⟩ | ⟨c1, sd, c2, c3⟩
    · refine jj_callU C rfl c2 rfl mu_BS_190c (ct_level c2) (rest := []) rfl rfl ⟨(Nat.le_of_ble_eq_true rfl), (Nat.le_of_ble_eq_true rfl)⟩ (Nat.le_of_ble_eq_true rfl) (Nat.le_of_ble_eq_true rfl) (Nat.le_of_ble_eq_true rfl) ?_
      rintro q9 h9 ⟨rfl, hh9⟩
      rw [hh9]
      exact jj_lret C rfl rfl (Nat.le_refl _) (Nat.le_refl _) ⟨rfl, rfl⟩
    · refine jj_callU C rfl c2 rfl mu_BS_190g (ga_level c2) (rest := []) rfl rfl ⟨(Nat.le_of_ble_eq_true rfl), (Nat.le_of_ble_eq_true rfl)⟩ (Nat.le_of_ble_eq_true rfl) (Nat.le_of_ble_eq_true rfl) (Nat.le_of_ble_eq_true rfl) ?_
      rintro q9 h9 ⟨rfl, hh9⟩
      rw [hh9]
      exact jj_lret C rfl rfl (Nat.le_refl _) (Nat.le_refl _) ⟨by rw [c3], rfl⟩
theorem bs_cancel_f {x : Int32} (hC : RC aC h r0 b0 ca cv cp cm nn rh sg mu io bm nq nl lp fb fq fm) (hs : px_at 6 (fun j => !(decide (sg 6 j ≤ 0))) x = false) : jj_Ct l D aC base yn_BS_cancel yb_BS_cancel 2 (some .boolean) 1 0 0 [.ref (ca 0), .int x] h (fun q h' => q = some (.int 0) ∧ h' = h) := by
  obtain ⟨hx, -, -, -, -, -, hm, hM, -⟩ := hC
  refine jj_start (tb := tb_BS_cancel) (by decide) tg_BS_cancel (Nat.le_of_ble_eq_true rfl) ?_
  intro p e s m args below meth cc C
  refine jj_go C 2 rfl ?_
  refine jj_callV C rfl ml_BS_179 wd_815 hx rfl se_BS_BS_monitorAt (bs_monitorAt (x := x) hx hm) (rest := []) rfl rfl ⟨Nat.le_of_ble_eq_true rfl, Nat.le_of_ble_eq_true rfl⟩ (Nat.le_of_ble_eq_true rfl) (Nat.le_of_ble_eq_true rfl) (Nat.le_of_ble_eq_true rfl) ?_
  rintro q9 h9 ⟨rfl, hh9⟩
  rw [hh9]
  rcases hM.at x with ⟨q1, q2⟩ | ⟨i, hi, hxi, hp, hp2, q1, -⟩
  · rw [q1]
    refine jj_go C 2 rfl ?_
    exact jj_iret C rfl rfl rfl (Nat.le_of_ble_eq_true rfl) (Nat.le_of_ble_eq_true rfl) ⟨rfl, rfl⟩
  · rw [hxi, px_at_n hi (by decide)] at hs
    simp [hp2] at hs
theorem bs_cancel_t {j : Nat} (hA : jA aC) (hC : RC aC h r0 b0 ca cv cp cm nn rh sg mu io bm nq nl lp fb fq fm) (hj : j < 6) (hp : ¬ sg 6 j = 0) : jj_Ct l D aC base yn_BS_cancel yb_BS_cancel 2 (some .boolean) 1 0 0 [.ref (ca 0), .int (nI j)] h (fun q h' => q = some (.int 1) ∧ RC aC h' r0 b0 ca cv cp cm nn rh (va_up sg 6 (upd (sg 6) j 0)) mu io bm nq nl lp fb fq (va_up fm j none) ∧ jj_fr [ca 5] h h') := by
  have hC0 := hC
  have hkd := hC.kinds
  have hofb := hC.offb hA
  obtain ⟨fB, fsB, hB0, hB1⟩ := hC.sb
  obtain ⟨hx, hsb, hb, hB, hq, hQ, hm, hM, hL, hs, hP⟩ := hC
  have hof := hC0.off hm (show (106 : Nat) ≠ 205 by decide) ⟨show (106 : Nat) ≠ 7 by decide, show (106 : Nat) ≠ 8 by decide⟩
  have hS : SF aC h r0 b0 [ca 5] := (SF.nil hB0).cons hm (bz_a hA (by decide) (by decide) (by decide))
  have m1 : ∀ c, c ≠ ca 5 → c ∉ [ca 5] := fun c hc q => hc (List.mem_singleton.mp q)
  obtain ⟨q2, q3⟩ : fm j = some (cm j) ∧ RM1 aC h b0 cm rh sg mu j := by
    rcases hM j hj with ⟨q, -⟩ | ⟨-, q1, q2⟩
    · exact absurd q hp
    · exact ⟨q1, q2⟩
  refine jj_start (tb := tb_BS_cancel) (by decide) tg_BS_cancel (Nat.le_of_ble_eq_true rfl) ?_
  intro p e s m args below meth cc C
  refine jj_go C 2 rfl ?_
  refine jj_callV C rfl ml_BS_179 wd_815 hx rfl se_BS_BS_monitorAt (bs_monitorAt (x := nI j) hx hm) (rest := []) rfl rfl ⟨Nat.le_of_ble_eq_true rfl, Nat.le_of_ble_eq_true rfl⟩ (Nat.le_of_ble_eq_true rfl) (Nat.le_of_ble_eq_true rfl) (Nat.le_of_ble_eq_true rfl) ?_
  rintro q9 h9 ⟨rfl, hh9⟩
  rw [hh9]
  rw [bs_at_n hj (by decide), q2]
  refine jj_go C 2 rfl ?_
  refine jj_getf C rfl fl_BS_34 hx rfl ?_
  refine jj_go C 2 rfl ?_
  refine jj_aastN C 7 (n := 6) (f := fm) (j := j) rfl hm rfl rfl hj (by decide) ?_
  have hf : jj_fr [ca 5] h (jj_up h (ca 5) (rfA (aC 7) 6 (va_up fm j none))) := jj_fr.rf.up (Or.inl List.mem_cons_self)
  have hm1 : jj_up h (ca 5) (rfA (aC 7) 6 (va_up fm j none)) (ca 5) = some (rfA (aC 7) 6 (va_up fm j none)) := jj_up_s
  refine jj_eq (h' := jj_up h (ca 5) (rfA (aC 7) 6 (va_up fm j none))) rfl rfl rfl rfl ?_
  generalize jj_up h (ca 5) (rfA (aC 7) 6 (va_up fm j none)) = h1 at hf hm1 ⊢
  obtain ⟨nx, F, l1, l2, ho, l4, l5, l6⟩ := hL
  refine jj_go C 1 rfl ?_
  refine jj_iret C rfl rfl rfl (Nat.le_of_ble_eq_true rfl) (Nat.le_of_ble_eq_true rfl) ⟨rfl, ⟨hf _ _ (m1 _ (co_ne 0 106 hx hm rfl rfl (by decide))) hx, hsb.keep hf (m1 _ (co_ne 11 106 hB1 hm rfl rfl (by decide))) (m1 _ (cl_ne hA 4 7 (by decide) (by decide) hB0 hm (by decide))), hf _ _ (m1 _ (co_ne 112 106 hb hm rfl rfl (by decide))) hb, hB.sf hA hS hf (fun i hi hp => ⟨m1 _ (hof.1 i hi hp).1, m1 _ (hof.1 i hi hp).2⟩), hf _ _ (m1 _ (cl_ne hA 6 7 (by decide) (by decide) hq hm (by decide))) hq, hQ.sf hS hf, hm1, ?_, ⟨nx, F, l1, l2, hf _ _ (m1 _ (co_ne 2 106 ho hm rfl rfl (by decide))) ho, fun w hw => hf _ _ (m1 _ (co_ne 216 106 (l4 w hw) hm rfl rfl (by decide))) (l4 w hw), l5, l6⟩, hf _ _ (m1 _ (co_ne 212 106 hs hm rfl rfl (by decide))) hs, hP.sf hS hf⟩, hf⟩
  intro k hk
  have hM1 := hM.sf hS hf (fun i hi hp => m1 _ (hof.2 i hi hp))
  by_cases hkj : k = j
  · refine Or.inl ⟨?_, ?_⟩
    · show upd (sg 6) j 0 k = 0
      unfold upd
      rw [if_pos hkj]
    · unfold va_up
      rw [if_pos hkj]
  · have e6 : va_up sg 6 (upd (sg 6) j 0) 6 k = sg 6 k := by
      show upd (sg 6) j 0 k = _
      unfold upd
      rw [if_neg hkj]
    have ef : va_up fm j none k = fm k := by
      unfold va_up
      rw [if_neg hkj]
    rw [e6, ef]
    rcases hM1 k hk with q | ⟨q, q1, nm, nmb, a1, a2, a3⟩
    · exact Or.inl q
    · refine Or.inr ⟨q, q1, nm, nmb, a1, a2, ?_⟩
      rw [e6]
      exact a3
theorem bs_shownForm {w n : Int32} (hC : RC aC h r0 b0 ca cv cp cm nn rh sg mu io bm nq nl lp fb fq fm) (hnq : nq ≤ 6) (h5 : ∀ i, i < 6 → (sg 5 i = 0 ↔ nq ≤ i)) (hnn : ∀ i, i < 12 → ¬ sg 2 i = 0 → rh i = px_fo (nn i)) : jj_Ct l D aC base yn_BS_shownForm yb_BS_shownForm 3 (some (.object "java/lang/String")) 1 0 0 [.ref (ca 0), .int w, .int n] h (fun q h' => ((fm_row rh sg w n = none ∧ q = some (.ref (aC 100))) ∨ ∃ r z zb, fm_row rh sg w n = some r ∧ q = some (.ref z) ∧ kx_ST aC h z zb (rh r)) ∧ h' = h) := by
  obtain ⟨hx, -, hb, hB, hq, hQ, -, -, -, -, hP⟩ := hC
  refine jj_start (tb := tb_BS_shownForm) (by decide) tg_BS_shownForm (Nat.le_of_ble_eq_true rfl) ?_
  intro p e s m args below meth cc C
  have third : ¬ (w = 0 ∧ px_at 12 (px_b (sg 2)) n = true) → ¬ (w = 1 ∧ px_at 6 (px_b (sg 5)) n = true) → jj_J p l e (jj_rm 1 0 0) s m args below meth cc D base 3 (MQ below (jj_Q D base (fun q h' => ((fm_row rh sg w n = none ∧ q = some (.ref (aC 100))) ∨ ∃ r z zb, fm_row rh sg w n = some r ∧ q = some (.ref z) ∧ kx_ST aC h z zb (rh r)) ∧ h' = h)) args s 0 0 (jj_A base)) 46 [(0, .ref (ca 0)), (1, .int w), (2, .int n)] [] h 0 0 := by
    intro n1 n2
    have hrow : fm_row rh sg w n = if w = 2 ∧ 0 < (rh 30).length then some 30 else none := by
      unfold fm_row
      rw [if_neg n1, if_neg n2]
    refine jj_go C 2 rfl ?_
    refine jj_if C rfl (fun z => ?_) (fun z => ?_)
    · refine jj_go C 1 rfl ?_
      refine jj_getf C rfl fl_BS_54 hx rfl ?_
      refine jj_go C 1 rfl ?_
      refine jj_aret C rfl rfl (Or.inl ⟨_, rfl⟩) (Or.inr ⟨_, rfl⟩) (Nat.le_of_ble_eq_true rfl) (Nat.le_of_ble_eq_true rfl) ⟨?_, rfl⟩
      rw [hrow]
      rcases hP with ⟨p1, p2⟩ | ⟨p1, lpb, p2, p3⟩
      · rw [if_neg (by rw [p1]; exact fun q => absurd q.2 (Nat.lt_irrefl _)), p2]
        exact Or.inl ⟨rfl, rfl⟩
      · rw [if_pos ⟨z, List.length_pos_iff.mpr p1⟩]
        exact Or.inr ⟨30, lp, lpb, rfl, rfl, p2⟩
    · refine jj_ldcs C rfl (Or.inl ⟨rfl, rfl⟩) ?_
      refine jj_aret C rfl rfl (Or.inl ⟨_, rfl⟩) (Or.inr ⟨_, rfl⟩) (Nat.le_of_ble_eq_true rfl) (Nat.le_of_ble_eq_true rfl) ⟨Or.inl ⟨?_, rfl⟩, rfl⟩
      rw [hrow, if_neg (fun q => z q.1)]
  have second : ¬ (w = 0 ∧ px_at 12 (px_b (sg 2)) n = true) → jj_J p l e (jj_rm 1 0 0) s m args below meth cc D base 3 (MQ below (jj_Q D base (fun q h' => ((fm_row rh sg w n = none ∧ q = some (.ref (aC 100))) ∨ ∃ r z zb, fm_row rh sg w n = some r ∧ q = some (.ref z) ∧ kx_ST aC h z zb (rh r)) ∧ h' = h)) args s 0 0 (jj_A base)) 24 [(0, .ref (ca 0)), (1, .int w), (2, .int n)] [] h 0 0 := by
    intro n1
    refine jj_go C 2 rfl ?_
    refine jj_if C rfl (fun z => ?_) (fun z => third n1 (fun q => z q.1))
    refine jj_go C 2 rfl ?_
    refine jj_callV C rfl ml_BS_138 wd_708 hx rfl se_BS_BS_queryAt (bs_queryAt (x := n) hx hq hnq) (rest := []) rfl rfl ⟨Nat.le_of_ble_eq_true rfl, Nat.le_of_ble_eq_true rfl⟩ (Nat.le_of_ble_eq_true rfl) (Nat.le_of_ble_eq_true rfl) (Nat.le_of_ble_eq_true rfl) ?_
    rintro q9 h9 ⟨rfl, hh9⟩
    rw [hh9]
    have cases9 : (bs_at fq nq n = none ∧ px_at 6 (px_b (sg 5)) n = false) ∨ ∃ i, i < nq ∧ n = nI i := by
      by_cases h0 : n < 0
      · exact Or.inl ⟨if_pos h0, px_at_neg h0⟩
      obtain ⟨j, hj, rfl⟩ := nI_of h0
      by_cases hjq : j < nq
      · exact Or.inr ⟨j, hjq, rfl⟩
      · refine Or.inl ⟨?_, ?_⟩
        · unfold bs_at
          rw [if_neg h0, if_pos (nI_le (by omega) hj)]
        · by_cases h6 : j < 6
          · rw [px_at_n h6 (by decide)]
            simp [px_b, (h5 j h6).mpr (by omega)]
          · exact px_at_ge (nI_le (by omega) hj)
    rcases cases9 with ⟨c1, c2⟩ | ⟨i, hi, rfl⟩
    · rw [c1]
      refine jj_go C 1 rfl ?_
      exact third n1 (fun q => by rw [c2] at q; cases q.2)
    · obtain ⟨qo, tx, txb, a1, a2, a3, a4⟩ := hQ i hi
      have hat : px_at 6 (px_b (sg 5)) (nI i) = true := by
        rw [px_at_n (by omega) (by decide)]
        have : ¬ sg 5 i = 0 := fun q => by have := (h5 i (by omega)).mp q; omega
        simp [px_b, this]
      rw [bs_at_n hi (by omega), a1]
      refine jj_go C 3 rfl ?_
      refine jj_callV C rfl ml_BS_138 wd_708 hx rfl se_BS_BS_queryAt (bs_queryAt (x := nI i) hx hq hnq) (rest := []) rfl rfl ⟨Nat.le_of_ble_eq_true rfl, Nat.le_of_ble_eq_true rfl⟩ (Nat.le_of_ble_eq_true rfl) (Nat.le_of_ble_eq_true rfl) (Nat.le_of_ble_eq_true rfl) ?_
      rintro q9 h9 ⟨rfl, hh9⟩
      rw [hh9]
      rw [bs_at_n hi (by omega), a1]
      refine jj_getf C rfl fl_BS_142 a2 rfl ?_
      refine jj_aret C rfl rfl (Or.inl ⟨_, rfl⟩) (Or.inr ⟨_, rfl⟩) (Nat.le_of_ble_eq_true rfl) (Nat.le_of_ble_eq_true rfl) ⟨Or.inr ⟨24 + i, tx, txb, ?_, rfl, a3⟩, rfl⟩
      unfold fm_row
      rw [if_neg n1, if_pos ⟨z, hat⟩, nI_clamp (by omega)]
  refine jj_go C 1 rfl ?_
  refine jj_if C rfl (fun z => ?_) (fun z => second (fun q => z q.1))
  refine jj_go C 2 rfl ?_
  refine jj_callV C rfl ml_BS_89 wd_528 hx rfl se_BS_BS_beanAt (bs_beanAt (x := n) hx hb) (rest := []) rfl rfl ⟨Nat.le_of_ble_eq_true rfl, Nat.le_of_ble_eq_true rfl⟩ (Nat.le_of_ble_eq_true rfl) (Nat.le_of_ble_eq_true rfl) (Nat.le_of_ble_eq_true rfl) ?_
  rintro q9 h9 ⟨rfl, hh9⟩
  rw [hh9]
  rcases hB.at n with ⟨q1, q2⟩ | ⟨i, be, hi, hxi, hp, q1, ⟨pt, V, B, a1, a2, a3⟩, q2⟩
  · rw [q1]
    refine jj_go C 1 rfl ?_
    exact second (fun q => by rw [q2] at q; cases q.2)
  · rw [q1]
    obtain ⟨tx, txb, st, en, Sf, Ef, fm9, fmb9, ⟨p1, -⟩, -, p3, -⟩ := a2
    refine jj_go C 3 rfl ?_
    refine jj_callV C rfl ml_BS_89 wd_528 hx rfl se_BS_BS_beanAt (bs_beanAt (x := n) hx hb) (rest := []) rfl rfl ⟨Nat.le_of_ble_eq_true rfl, Nat.le_of_ble_eq_true rfl⟩ (Nat.le_of_ble_eq_true rfl) (Nat.le_of_ble_eq_true rfl) (Nat.le_of_ble_eq_true rfl) ?_
    rintro q9 h9 ⟨rfl, hh9⟩
    rw [hh9]
    rw [q1]
    refine jj_getf C rfl fl_BS_147 a1 rfl ?_
    refine jj_getf C rfl fl_BS_70 p1 rfl ?_
    refine jj_aret C rfl rfl (Or.inl ⟨_, rfl⟩) (Or.inr ⟨_, rfl⟩) (Nat.le_of_ble_eq_true rfl) (Nat.le_of_ble_eq_true rfl) ⟨Or.inr ⟨i, fm9, fmb9, ?_, rfl, by rw [hnn i hi hp]; exact p3⟩, rfl⟩
    unfold fm_row
    rw [if_pos ⟨z, q2⟩, hxi, nI_clamp (by omega)]
theorem bs_form {w n k : Int32} (hC : RC aC h r0 b0 ca cv cp cm nn rh sg mu io bm nq nl lp fb fq fm) (hnq : nq ≤ 6) (h5 : ∀ i, i < 6 → (sg 5 i = 0 ↔ nq ≤ i)) (hnn : ∀ i, i < 12 → ¬ sg 2 i = 0 → rh i = px_fo (nn i)) (hne : ∀ r, fm_row rh sg w n = some r → (rh r).length ≤ 60 ∧ rh r ≠ []) : jj_Ct l D aC base yn_BS_form yb_BS_form 5 (some .int) 4 0 0 [.ref (ca 0), .int w, .int n, .int k] h (fun q h' => q = some (.int (fm_ans rh sg w n k)) ∧ h' = h) := by
  unfold fm_ans
  refine jj_start (tb := tb_BS_form) (by decide) tg_BS_form (Nat.le_of_ble_eq_true rfl) ?_
  intro p e s m args below meth cc C
  refine jj_go C 3 rfl ?_
  refine jj_callV C rfl ml_BS_155 wd_735 hC.1 rfl se_BS_BS_shownForm (bs_shownForm (w := w) (n := n) hC hnq h5 hnn) (rest := []) rfl rfl ⟨Nat.le_of_ble_eq_true rfl, Nat.le_of_ble_eq_true rfl⟩ (Nat.le_of_ble_eq_true rfl) (Nat.le_of_ble_eq_true rfl) (Nat.le_of_ble_eq_true rfl) ?_
  rintro q9 h9 ⟨hq9, hh9⟩
  rw [hh9]
  rcases hq9 with ⟨r1, rfl⟩ | ⟨r, z, zb, r1, rfl, hz⟩
  · rw [r1]
    refine jj_go C 2 rfl ?_
    refine jj_callVg C rfl ml_BS_159 wd_557 (jj_lit_recv C) se_ST_ST_isEmpty kx_ST_isEmpty0 (rest := []) rfl rfl ⟨(Nat.le_of_ble_eq_true rfl), (Nat.le_of_ble_eq_true rfl)⟩ (Nat.le_of_ble_eq_true rfl) (Nat.le_of_ble_eq_true rfl) (Nat.le_of_ble_eq_true rfl) ?_
    rintro q9 h9 ⟨rfl, hh9⟩
    rw [hh9]
    refine jj_if C rfl (fun z => absurd z (by decide)) (fun _ => ?_)
    refine jj_go C 1 rfl ?_
    exact jj_iret C rfl rfl rfl (Nat.le_of_ble_eq_true rfl) (Nat.le_of_ble_eq_true rfl) ⟨rfl, rfl⟩
  · rw [r1]
    obtain ⟨hl, hne⟩ := hne r r1
    have hpos := List.length_pos_iff.mpr hne
    obtain ⟨fs, hrc⟩ := hz.recv
    have hz0 := hz
    obtain ⟨s1, z1, f1, o1, v1, x1⟩ := hz0
    refine jj_go C 2 rfl ?_
    refine jj_callV C rfl ml_BS_159 wd_557 hrc rfl se_ST_ST_isEmpty (kx_ST_isEmpty o1 v1 (by omega)) (rest := []) rfl rfl ⟨Nat.le_of_ble_eq_true rfl, Nat.le_of_ble_eq_true rfl⟩ (Nat.le_of_ble_eq_true rfl) (Nat.le_of_ble_eq_true rfl) (Nat.le_of_ble_eq_true rfl) ?_
    rintro q9 h9 ⟨rfl, hh9⟩
    rw [hh9]
    rw [if_neg (show ¬ (rh r).length = 0 by omega)]
    refine jj_if C rfl (fun _ => ?_) (fun z => absurd rfl z)
    refine jj_go C 2 rfl ?_
    refine jj_if C rfl (fun zk => ?_) (fun zk => ?_)
    · refine jj_go C 1 rfl ?_
      refine jj_callV C rfl ml_BS_126 wd_364 hrc rfl se_ST_ST_length (kt_ST_length hz) (rest := []) rfl rfl ⟨Nat.le_of_ble_eq_true rfl, Nat.le_of_ble_eq_true rfl⟩ (Nat.le_of_ble_eq_true rfl) (Nat.le_of_ble_eq_true rfl) (Nat.le_of_ble_eq_true rfl) ?_
      rintro q9 h9 ⟨rfl, hh9⟩
      rw [hh9]
      refine jj_iret C rfl rfl rfl (Nat.le_of_ble_eq_true rfl) (Nat.le_of_ble_eq_true rfl) ⟨?_, rfl⟩
      rw [zk]
      show _ = some (Value.int (fm_a (rh r) (-1)))
      unfold fm_a
      rw [if_neg (by decide), if_pos, if_neg (by decide)]
      exact Int32.lt_of_lt_of_le (show (-1 : Int32) < 0 by decide) (nI_pos' (by omega))
    · refine jj_go C 1 rfl ?_
      refine jj_if C rfl (fun zn => ?_) (fun zn => ?_)
      · refine jj_go C 1 rfl ?_
        refine jj_iret C rfl rfl rfl (Nat.le_of_ble_eq_true rfl) (Nat.le_of_ble_eq_true rfl) ⟨?_, rfl⟩
        show _ = some (Value.int (fm_a (rh r) k))
        unfold fm_a
        rw [if_pos]
        rw [Int32.lt_iff_toInt_lt] at zn ⊢
        have h0 : (0 : Int32).toInt = 0 := by decide
        have h1 : (-1 : Int32).toInt = -1 := by decide
        have hk : k.toInt ≠ -1 := fun q => zk (Int32.toInt_inj.mp (q.trans h1.symm))
        omega
      · obtain ⟨j, hj, rfl⟩ := nI_of zn
        refine jj_go C 2 rfl ?_
        refine jj_callV C rfl ml_BS_126 wd_364 hrc rfl se_ST_ST_length (kt_ST_length hz) (rest := [.int (nI j)]) rfl rfl ⟨Nat.le_of_ble_eq_true rfl, Nat.le_of_ble_eq_true rfl⟩ (Nat.le_of_ble_eq_true rfl) (Nat.le_of_ble_eq_true rfl) (Nat.le_of_ble_eq_true rfl) ?_
        rintro q9 h9 ⟨rfl, hh9⟩
        rw [hh9]
        have hnn1 : ¬ nI j < -1 := fun q => zn (Int32.lt_trans q (by decide))
        refine jj_if C rfl (fun zl => ?_) (fun zl => ?_)
        · have hlt := (nI_ltI (a := j) (b := (rh r).length) (by omega) (by omega)).mp zl
          refine jj_go C 2 rfl ?_
          refine jj_callV C rfl ml_BS_163 wd_372 hrc rfl se_ST_ST_charAt (kt_ST_charAt (i := j) hz hlt (by omega)) (rest := []) rfl rfl ⟨Nat.le_of_ble_eq_true rfl, Nat.le_of_ble_eq_true rfl⟩ (Nat.le_of_ble_eq_true rfl) (Nat.le_of_ble_eq_true rfl) (Nat.le_of_ble_eq_true rfl) ?_
          rintro q9 h9 ⟨rfl, hh9⟩
          rw [hh9]
          refine jj_iret C rfl rfl rfl (Nat.le_of_ble_eq_true rfl) (Nat.le_of_ble_eq_true rfl) ⟨?_, rfl⟩
          show _ = some (Value.int (fm_a (rh r) (nI j)))
          unfold fm_a
          rw [if_neg hnn1, if_pos zl, if_pos (nI_pos' hj), jr_g_n hj]
        · refine jj_go C 1 rfl ?_
          refine jj_iret C rfl rfl rfl (Nat.le_of_ble_eq_true rfl) (Nat.le_of_ble_eq_true rfl) ⟨?_, rfl⟩
          show _ = some (Value.int (fm_a (rh r) (nI j)))
          unfold fm_a
          rw [if_neg hnn1, if_neg zl]
end PE
