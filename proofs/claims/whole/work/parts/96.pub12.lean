/-! The class's public methods: observe -/
theorem mu_BS_227c : jj_MU "BeanServer" 227 "BeanServer$Counter" "BeanServer$Monitor" ⟨"BeanServer$Monitor", "kindFor", "(I)I"⟩ yn_CT_kindFor yb_CT_kindFor 2 (some .int) 1 := ⟨wd_825, wd_827, wd_828, wd_829, wd_21, wd_830, Or.inr (by decide), by decide +kernel⟩
theorem mu_BS_227g : jj_MU "BeanServer" 227 "BeanServer$Gauge" "BeanServer$Monitor" ⟨"BeanServer$Monitor", "kindFor", "(I)I"⟩ yn_GA_kindFor yb_GA_kindFor 2 (some .int) 1 := ⟨wd_825, wd_827, wd_835, wd_836, wd_22, wd_837, Or.inr (by decide), by decide +kernel⟩
theorem cn_f_T {M : Int64} {R S T T' lo st v : Int32} (h : ¬ S = 0 → T = T') : cn_f M R S T lo st v = cn_f M R S T' lo st v := by
  by_cases hS : S = 0
  · unfold cn_f
    simp [hS]
  · rw [h hS]
theorem i64_i {x y : Int32} : x.toInt64 = y.toInt64 ↔ x = y := by
  constructor
  · intro h
    have := congrArg Int64.toInt h
    rw [Int32.toInt_toInt64, Int32.toInt_toInt64] at this
    exact Int32.toInt_inj.mp this
  · intro h
    rw [h]
theorem gg_ga {sd lo hi v : Int32} : gg_f sd.toInt64 lo hi v = (ga_f sd lo hi v).map (fun q => (q.1, q.2.toInt64)) := by
  have e1 : sd.toInt64 = 1 ↔ sd = 1 := i64_i (y := 1)
  have e2 : sd.toInt64 = -1 ↔ sd = -1 := i64_i (y := -1)
  unfold gg_f ga_f
  by_cases h1 : ¬ v < hi ∧ ¬ sd = 1
  · rw [if_pos h1, if_pos ⟨h1.1, fun q => h1.2 (e1.mp q)⟩]
    rfl
  · rw [if_neg h1, if_neg (fun q => h1 ⟨q.1, fun z => q.2 (e1.mpr z)⟩)]
    by_cases h2 : v ≤ lo ∧ ¬ sd = -1
    · rw [if_pos h2, if_pos ⟨h2.1, fun q => h2.2 (e2.mp q)⟩]
      rfl
    · rw [if_neg h2, if_neg (fun q => h2 ⟨q.1, fun z => q.2 (e2.mpr z)⟩)]
      rfl
theorem ga_k {sd lo hi v k sd' : Int32} (h : ga_f sd lo hi v = some (k, sd')) : ¬ k = -1 := by
  unfold ga_f at h
  split at h
  · cases h
    decide
  · split at h
    · cases h
      decide
    · cases h
section PM
variable {l : Launch} {D : va_G} {aC : Nat → ClassId} {base : Nat} {h h' : jjHp} {r0 b0 : Nat} {ca cv cp cm : Nat → Nat} {nn rh rh' : Nat → List Nat} {sg sg' : Nat → Nat → Int32} {mu mu' : Nat → Int64} {io : Nat → Int32} {bm nq nl lp : Nat} {fb fq fm : Nat → Option Nat}
/-- a monitor's cell gets another content -/
theorem RC.mon {m ci : Nat} {fs : List Value} (hC : RC aC h r0 b0 ca cv cp cm nn rh sg mu io bm nq nl lp fb fq fm) (hA : jA aC) (hD : RD sg cv cp cm) (hm : m < 6) (hp : ¬ sg 6 m = 0) (ho : h (cm m) = some (.inr (ci, fs))) (hci : ci = 7 ∨ ci = 8) (hf : jj_fr [cm m] h h') (he : ∀ k, k ∈ [2, 3, 4, 6, 18, 20] → sg' k = sg k) (hi : ∀ i, i ≠ m → sg' 7 i = sg 7 i ∧ sg' 8 i = sg 8 i ∧ sg' 9 i = sg 9 i ∧ sg' 11 i = sg 11 i ∧ sg' 12 i = sg 12 i ∧ sg' 13 i = sg 13 i ∧ sg' 14 i = sg 14 i ∧ mu' i = mu i) (h1 : RM1 aC h' b0 cm rh sg' mu' m) : RC aC h' r0 b0 ca cv cp cm nn rh sg' mu' io bm nq nl lp fb fq fm := by
  have hC0 := hC
  have hofb := hC.offb hA
  obtain ⟨fB, fsB, hB0, hB1⟩ := hC.sb
  have hS : SF aC h r0 b0 [cm m] := (SF.nil hB0).cons ho (bz_o (by omega))
  have m1 : ∀ c, c ≠ cm m → c ∉ [cm m] := fun c hc q => hc (List.mem_singleton.mp q)
  have hcn := hC.ca_ne ho (by show ci ≠ 0 ∧ ci ≠ 11 ∧ ci ≠ 112 ∧ ci ≠ 106 ∧ ci ≠ 2 ∧ ci ≠ 212 ∧ ci ≠ 216; omega)
  have hca := fun k a b => m1 (ca k) (hcn k a b)
  obtain ⟨hx, hsb, hb, hB, hq, hQ, hm5, hM, hL, hs, hP⟩ := hC
  have e18 := he 18 (by decide)
  have e20 := he 20 (by decide)
  have e6 := he 6 (by decide)
  refine ⟨hf _ _ (hca 0 (by decide) (by decide)) hx, hsb.keep hf (hca 1 (by decide) (by decide)) (m1 _ (Ne.symm (hofb.2 m hm hp))), hf _ _ (hca 3 (by decide) (by decide)) hb, (hB.sf hA hS hf (fun i hi hpi => ?_)).sgc (he 2 (by decide)) (he 3 (by decide)) (he 4 (by decide)), hf _ _ (hca 4 (by decide) (by decide)) hq, hQ.sf hS hf, hf _ _ (hca 5 (by decide) (by decide)) hm5, ?_, by rw [e18]; exact hL.sf hf (hca 6 (by decide) (by decide)) (fun w hw => hca (7 + w) (by omega) (by omega)), by rw [e20]; exact hf _ _ (hca 11 (by decide) (by decide)) hs, hP.sf hS hf⟩
  · rcases hB i hi with ⟨q, -⟩ | ⟨-, be', -, pt', V', B', -, -, c3, c4, -⟩
    · exact absurd q hpi
    · exact ⟨m1 _ (co_ne 205 ci c3 ho rfl rfl (by omega)), m1 _ (co_ne 205 ci c4 ho rfl rfl (by omega))⟩
  · intro i hi6
    by_cases him : i = m
    · subst him
      refine Or.inr ⟨by rw [e6]; exact hp, ?_, h1⟩
      rcases hM i hi6 with ⟨q, -⟩ | ⟨-, q1, -⟩
      · exact absurd q hp
      · exact q1
    · rw [e6]
      rcases hM i hi6 with q | ⟨q, q1, q2⟩
      · exact Or.inl q
      · obtain ⟨nm, nmb, a1, a2, a3⟩ := q2.sf hS hf (m1 _ (hD.2 i m hi6 hm q hp him))
        obtain ⟨i7, i8, i9, i11, i12, i13, i14, imu⟩ := hi i him
        refine Or.inr ⟨q, q1, nm, nmb, a1, a2, ?_⟩
        rw [e6, i7, i8, i9, i11, i12, i13, i14, imu]
        exact a3
theorem cm_log {m ci : Nat} {fs : List Value} (hC : RC aC h r0 b0 ca cv cp cm nn rh sg mu io bm nq nl lp fb fq fm) (ho : h (cm m) = some (.inr (ci, fs))) (hci : ci = 7 ∨ ci = 8) : cm m ∉ lg_S (ca 6) (fun w => ca (7 + w)) := by
  have hcn := hC.ca_ne ho (by show ci ≠ 0 ∧ ci ≠ 11 ∧ ci ≠ 112 ∧ ci ≠ 106 ∧ ci ≠ 2 ∧ ci ≠ 212 ∧ ci ≠ 216; omega)
  unfold lg_S
  intro q
  simp only [List.mem_cons, List.not_mem_nil, or_false] at q
  rcases q with q | q | q | q | q
  · exact hcn 6 (by decide) (by decide) q.symm
  · exact hcn 7 (by decide) (by decide) q.symm
  · exact hcn 8 (by decide) (by decide) q.symm
  · exact hcn 9 (by decide) (by decide) q.symm
  · exact hcn 10 (by decide) (by decide) q.symm
theorem RC.logSF (hC : RC aC h r0 b0 ca cv cp cm nn rh sg mu io bm nq nl lp fb fq fm) (hA : jA aC) : SF aC h r0 b0 (lg_S (ca 6) (fun w => ca (7 + w))) := by
  obtain ⟨fB, fsB, hB0, hB1⟩ := hC.sb
  obtain ⟨-, -, -, -, -, -, -, -, ⟨nx, F, l1, l2, ho, l4, l5, l6⟩, -, -⟩ := hC
  exact (((((SF.nil hB0).cons (l4 3 (by decide)) (bz_a hA (by decide) (by decide) (by decide))).cons (l4 2 (by decide)) (bz_a hA (by decide) (by decide) (by decide))).cons (l4 1 (by decide)) (bz_a hA (by decide) (by decide) (by decide))).cons (l4 0 (by decide)) (bz_a hA (by decide) (by decide) (by decide))).cons ho (bz_o (by decide))
def lk_P (aC : Nat → ClassId) (h : jjHp) (r0 b0 : Nat) (ca cv cp cm : Nat → Nat) (nn rh : Nat → List Nat) (s : obS) (bm nq lp : Nat) (fb fq fm : Nat → Option Nat) (S : List Nat) (q : Option Value) (h' : jjHp) : Prop := q = none ∧ ∃ nl', RC aC h' r0 b0 ca cv cp cm nn rh s.1 s.2.1 s.2.2 bm nq nl' lp fb fq fm ∧ s.2.2 17 = nI nl' ∧ jj_fr S h h'
theorem bs_letLookC {mm w nm nmb : Nat} {T : Int32} (hA : jA aC) (hC : RC aC h r0 b0 ca cv cp cm nn rh sg mu io bm nq nl lp fb fq fm) (hD : RD sg cv cp cm) (hmm : mm < 6) (hw : w < 5) (h7 : sg 7 mm = nI w) (h6 : sg 6 mm = 1) (hnm : kx_ST aC h nm nmb (rh (12 + mm))) (hnb : nmb ≠ b0) (hlen : (rh (12 + mm)).length ≤ 60) (ho : h (cm mm) = some (.inr (7, ct_fs (sg 8 mm) (sg 9 mm) (mu mm) (sg 11 mm) (sg 12 mm) T nm (sg 7 mm) (sg 14 mm)))) (hT : ¬ sg 12 mm = 0 → T = sg 13 mm) (hnn : ∀ i, i < 12 → ¬ sg 2 i = 0 → rh i = px_fo (nn i) ∧ (rh i).length ≤ 60) (h17 : io 17 = nI nl) : jj_Ct l D aC base yn_BS_letLook yb_BS_letLook 6 none 3 0 0 [.ref (ca 0), .ref (cm mm), .int (nI mm)] h (fun q h' => lk_P aC h r0 b0 ca cv cp cm nn rh (ob_1 rh mm (sg, mu, io)) bm nq lp fb fq fm ([cm mm] ++ lg_S (ca 6) (fun w => ca (7 + w))) q h') := by
  have hx := hC.1
  have hp : ¬ sg 6 mm = 0 := by rw [h6]; decide
  have hmo : cm mm ∉ lg_S (ca 6) (fun w => ca (7 + w)) := cm_log hC ho (by omega)
  have subM : ∀ {g g' : jjHp}, jj_fr [cm mm] g g' → jj_fr ([cm mm] ++ lg_S (ca 6) (fun w => ca (7 + w))) g g' := fun hf => hf.mono (fun c hc => List.mem_append_left _ hc)
  have subL : ∀ {g g' : jjHp}, jj_fr (lg_S (ca 6) (fun w => ca (7 + w))) g g' → jj_fr ([cm mm] ++ lg_S (ca 6) (fun w => ca (7 + w))) g g' := fun hf => hf.mono (fun c hc => List.mem_append_right _ hc)
  have tx : ∀ {g g' : jjHp} {sg1 : Nat → Nat → Int32} {mu1 : Nat → Int64} {io1 : Nat → Int32} {nl1 : Nat} {fs : List Value}, RC aC g r0 b0 ca cv cp cm nn rh sg1 mu1 io1 bm nq nl1 lp fb fq fm → g (cm mm) = some (.inr (7, fs)) → kx_ST aC g nm nmb (rh (12 + mm)) → jj_fr [cm mm] g g' → kx_ST aC g' nm nmb (rh (12 + mm)) := by
    intro g g' sg1 mu1 io1 nl1 fs hC1 ho1 hs1 hf1
    obtain ⟨fB, fsB, hB0, -⟩ := hC1.sb
    exact hs1.sf hnb ((SF.nil hB0).cons ho1 (bz_o (r0 := r0) (by decide))) hf1
  refine jj_start (tb := tb_BS_letLook) (by decide) tg_BS_letLook (Nat.le_of_ble_eq_true rfl) ?_
  intro p e s m args below meth cc C
  -- the end of the quiet way
  have tail : ∀ (g : jjHp) (sg1 : Nat → Nat → Int32) (io1 : Nat → Int32) (nl1 : Nat) (v3 : Value), RC aC g r0 b0 ca cv cp cm nn rh sg1 mu io1 bm nq nl1 lp fb fq fm → g (cm mm) = some (.inr (7, ct_fs (sg 8 mm) (sg 9 mm) (mu mm) (sg 11 mm) (sg 12 mm) T nm (sg 7 mm) (sg 14 mm))) → kx_ST aC g nm nmb (rh (12 + mm)) → (∀ k, k ≠ 18 → sg1 k = sg k) → io1 17 = nI nl1 → jj_fr ([cm mm] ++ lg_S (ca 6) (fun w => ca (7 + w))) h g → ob_1 rh mm (sg, mu, io) = (va_up sg1 14 (upd (sg1 14) mm 1), mu, io1) → jj_J p l e (jj_rm 3 0 0) s m args below meth cc D base 6 (MQ below (jj_Q D base (fun q h' => lk_P aC h r0 b0 ca cv cp cm nn rh (ob_1 rh mm (sg, mu, io)) bm nq lp fb fq fm ([cm mm] ++ lg_S (ca 6) (fun w => ca (7 + w))) q h')) args s 0 0 (jj_A base)) 46 [(0, .ref (ca 0)), (1, .ref (cm mm)), (2, .int (nI mm)), (3, v3)] [] g 0 0 := by
    intro g sg1 io1 nl1 v3 hCg hog hsg hsk h171 hfg hob
    have hDg : RD sg1 cv cp cm := by
      unfold RD
      rw [hsk 2 (by decide), hsk 6 (by decide)]
      exact hD
    refine jj_go C 2 rfl ?_
    refine jj_putf C rfl fl_BS_224_CT hog rfl rfl (Nat.le_of_ble_eq_true rfl) ?_
    have hf2 : jj_fr [cm mm] g (jj_up g (cm mm) (.inr (7, ct_fs (sg 8 mm) (sg 9 mm) (mu mm) (sg 11 mm) (sg 12 mm) T nm (sg 7 mm) 1))) := jj_fr.rf.up (Or.inl List.mem_cons_self)
    have ho2 : jj_up g (cm mm) (.inr (7, ct_fs (sg 8 mm) (sg 9 mm) (mu mm) (sg 11 mm) (sg 12 mm) T nm (sg 7 mm) 1)) (cm mm) = some (.inr (7, ct_fs (sg 8 mm) (sg 9 mm) (mu mm) (sg 11 mm) (sg 12 mm) T nm (sg 7 mm) 1)) := jj_up_s
    refine jj_eq (h' := jj_up g (cm mm) (.inr (7, ct_fs (sg 8 mm) (sg 9 mm) (mu mm) (sg 11 mm) (sg 12 mm) T nm (sg 7 mm) 1))) rfl rfl rfl rfl ?_
    generalize jj_up g (cm mm) (.inr (7, ct_fs (sg 8 mm) (sg 9 mm) (mu mm) (sg 11 mm) (sg 12 mm) T nm (sg 7 mm) 1)) = g2 at hf2 ho2 ⊢
    have hs2 := tx hCg hog hsg hf2
    have hC2 := hCg.mon (sg' := va_up sg1 14 (upd (sg1 14) mm 1)) (mu' := mu) hA hDg hmm (by rw [hsk 6 (by decide)]; exact hp) hog (by omega) hf2 (fun k hk => if_neg (by intro q; rw [q] at hk; revert hk; decide)) (fun i hi => ⟨rfl, rfl, rfl, rfl, rfl, rfl, (upd_ne hi : upd (sg1 14) mm 1 i = sg1 14 i), rfl⟩) (by
      refine ⟨nm, nmb, hs2, hnb, ?_⟩
      have e14 : va_up sg1 14 (upd (sg1 14) mm 1) 14 mm = 1 := (upd_at : upd (sg1 14) mm 1 mm = 1)
      have en : ∀ k, k ≠ 14 → k ≠ 18 → va_up sg1 14 (upd (sg1 14) mm 1) k = sg k := fun k a b => (if_neg a).trans (hsk k b)
      rw [e14, en 6 (by decide) (by decide), en 7 (by decide) (by decide), en 8 (by decide) (by decide), en 9 (by decide) (by decide), en 11 (by decide) (by decide), en 12 (by decide) (by decide), en 13 (by decide) (by decide)]
      exact Or.inl ⟨h6, T, ho2, hT⟩)
    refine jj_vret C rfl rfl (Nat.le_of_ble_eq_true rfl) (Nat.le_of_ble_eq_true rfl) ⟨rfl, nl1, ?_⟩
    rw [hob]
    exact ⟨hC2, h171, hfg.tr (subM hf2)⟩
  have err : ∀ v3 : Value, ob_v rh sg mm = none → jj_J p l e (jj_rm 3 0 0) s m args below meth cc D base 6 (MQ below (jj_Q D base (fun q h' => lk_P aC h r0 b0 ca cv cp cm nn rh (ob_1 rh mm (sg, mu, io)) bm nq lp fb fq fm ([cm mm] ++ lg_S (ca 6) (fun w => ca (7 + w))) q h')) args s 0 0 (jj_A base)) 29 [(0, .ref (ca 0)), (1, .ref (cm mm)), (2, .int (nI mm)), (3, v3)] [] h 0 0 := by
    intro v3 hov
    have hob : ob_1 rh mm (sg, mu, io) = ob_e sg mu io mm := by
      unfold ob_1
      rw [show ob_v rh (sg, mu, io).1 mm = none from hov]
    refine jj_go C 1 rfl ?_
    refine jj_getf C rfl fl_BS_224_CT ho rfl ?_
    refine jj_if C rfl (fun z => ?_) (fun z => ?_)
    · obtain ⟨nx, F, -, -, ho4, -⟩ := hC.2.2.2.2.2.2.2.2.1
      refine jj_go C 1 rfl ?_
      refine jj_getf C rfl fl_BS_41 hx rfl ?_
      refine jj_go C 3 rfl ?_
      refine jj_callV C rfl ml_BS_85 wd_510 ho4 rfl se_LG_LG_give (bs_give (k := 5) (s0 := nI mm) (v0 := 0) hA hC h17) (rest := []) rfl rfl ⟨Nat.le_of_ble_eq_true rfl, Nat.le_of_ble_eq_true rfl⟩ (Nat.le_of_ble_eq_true rfl) (Nat.le_of_ble_eq_true rfl) (Nat.le_of_ble_eq_true rfl) ?_
      rintro q9 g ⟨rfl, nl1, hC1, h171, hf1⟩
      have hs1 := hnm.sf hnb (hC.logSF hA) hf1
      refine tail g (gv_sg sg io 5 (nI mm) 0) (gv_io io 5) nl1 v3 hC1 (hf1 _ _ hmo ho) hs1 (fun k hk => gv_sg_n hk) h171 (subL hf1) ?_
      rw [hob]
      unfold ob_e
      rw [if_pos z, gv_sg_n (by decide), gv_sg_up (by decide)]
    · refine tail h sg io nl v3 hC ho hnm (fun _ _ => rfl) h17 jj_fr.rf ?_
      rw [hob]
      unfold ob_e
      rw [if_neg z]
  refine jj_go C 3 rfl ?_
  refine jj_getf C rfl fl_BS_219_CT ho rfl ?_
  refine jj_callV C rfl ml_BS_75 wd_474 hx rfl se_BS_BS_beanNamed (bs_beanNamed (rh := rh) hx hC.2.2.1 hC.2.2.2.1 hnn hnm hlen) (rest := [.ref (ca 0)]) rfl rfl ⟨Nat.le_of_ble_eq_true rfl, Nat.le_of_ble_eq_true rfl⟩ (Nat.le_of_ble_eq_true rfl) (Nat.le_of_ble_eq_true rfl) (Nat.le_of_ble_eq_true rfl) ?_
  rintro q9 h9 ⟨rfl, hh9⟩
  rw [hh9]
  cases hbw : px_bw (sg 2) rh (rh (12 + mm)) 12 0 with
  | none =>
    refine jj_top (x' := -2) rfl ?_
    refine jj_callV C rfl ml_BS_89 wd_528 hx rfl se_BS_BS_beanAt (bs_beanAt (x := -2) hx hC.2.2.1) (rest := []) rfl rfl ⟨Nat.le_of_ble_eq_true rfl, Nat.le_of_ble_eq_true rfl⟩ (Nat.le_of_ble_eq_true rfl) (Nat.le_of_ble_eq_true rfl) (Nat.le_of_ble_eq_true rfl) ?_
    rintro q9 h9 ⟨rfl, hh9⟩
    rw [hh9]
    rw [show bs_at fb 12 (-2) = none from rfl]
    refine jj_go C 3 rfl ?_
    exact err _ (by unfold ob_v; rw [hbw])
  | some b =>
    obtain ⟨-, hb12, hpb, -⟩ := px_bw_lt 12 0 hbw
    have hb12 : b < 12 := by omega
    refine jj_top (x' := nI b) rfl ?_
    refine jj_callV C rfl ml_BS_89 wd_528 hx rfl se_BS_BS_beanAt (bs_beanAt (x := nI b) hx hC.2.2.1) (rest := []) rfl rfl ⟨Nat.le_of_ble_eq_true rfl, Nat.le_of_ble_eq_true rfl⟩ (Nat.le_of_ble_eq_true rfl) (Nat.le_of_ble_eq_true rfl) (Nat.le_of_ble_eq_true rfl) ?_
    rintro q9 h9 ⟨rfl, hh9⟩
    rw [hh9]
    obtain ⟨be, hfb, pt, V, B, a1, a2, a3, a4, a5⟩ : ∃ be, fb b = some be ∧ RB1 aC h b0 r0 cv cp nn sg b be := by
      rcases hC.2.2.2.1 b hb12 with ⟨q, -⟩ | ⟨-, be, q1, q2⟩
      · exact absurd q hpb
      · exact ⟨be, q1, q2⟩
    obtain ⟨v1, v2⟩ := a5 w hw
    rw [bs_at_n hb12 (by decide), hfb]
    refine jj_go C 4 rfl ?_
    refine jj_getf C rfl fl_BS_100 a1 rfl ?_
    refine jj_go C 1 rfl ?_
    refine jj_getf C rfl fl_BS_221_CT ho rfl ?_
    refine jj_top h7 ?_
    refine jj_zald C (n := 5) (f := B) rfl a4 rfl hw (by decide) ?_
    have hcl : (sg 7 mm).toNatClampNeg = w := by rw [h7]; exact nI_clamp (by omega)
    have hov : ob_v rh sg mm = if sg 4 (5 * b + w) = 0 then none else some (sg 3 (5 * b + w)) := by
      unfold ob_v
      rw [hbw]
      show (if sg 4 (5 * b + (sg 7 mm).toNatClampNeg) = 0 then none else some (sg 3 (5 * b + (sg 7 mm).toNatClampNeg))) = _
      rw [hcl]
    refine jj_if C rfl (fun z => err _ (by rw [hov, if_pos (by rw [← v2]; exact z)])) (fun z => ?_)
    rw [v2] at z
    rw [if_neg z] at hov
    refine jj_go C 2 rfl ?_
    refine jj_putf C rfl fl_BS_224_CT ho rfl rfl (Nat.le_of_ble_eq_true rfl) ?_
    have hf1 : jj_fr [cm mm] h (jj_up h (cm mm) (.inr (7, ct_fs (sg 8 mm) (sg 9 mm) (mu mm) (sg 11 mm) (sg 12 mm) T nm (sg 7 mm) 0))) := jj_fr.rf.up (Or.inl List.mem_cons_self)
    have ho1 : jj_up h (cm mm) (.inr (7, ct_fs (sg 8 mm) (sg 9 mm) (mu mm) (sg 11 mm) (sg 12 mm) T nm (sg 7 mm) 0)) (cm mm) = some (.inr (7, ct_fs (sg 8 mm) (sg 9 mm) (mu mm) (sg 11 mm) (sg 12 mm) T nm (sg 7 mm) 0)) := jj_up_s
    refine jj_eq (h' := jj_up h (cm mm) (.inr (7, ct_fs (sg 8 mm) (sg 9 mm) (mu mm) (sg 11 mm) (sg 12 mm) T nm (sg 7 mm) 0))) rfl rfl rfl rfl ?_
    generalize jj_up h (cm mm) (.inr (7, ct_fs (sg 8 mm) (sg 9 mm) (mu mm) (sg 11 mm) (sg 12 mm) T nm (sg 7 mm) 0)) = h1 at hf1 ho1 ⊢
    have hs1 := tx hC ho hnm hf1
    have hS0 : SF aC h r0 b0 [cm mm] := by
      obtain ⟨fB, fsB, hB0, -⟩ := hC.sb
      exact (SF.nil hB0).cons ho (bz_o (by decide))
    have e14 : va_up sg 14 (upd (sg 14) mm 0) 14 mm = 0 := (upd_at : upd (sg 14) mm 0 mm = 0)
    have hC1 := hC.mon (sg' := va_up sg 14 (upd (sg 14) mm 0)) (mu' := mu) hA hD hmm hp ho (by omega) hf1 (fun k hk => if_neg (by intro q; rw [q] at hk; revert hk; decide)) (fun i hi => ⟨rfl, rfl, rfl, rfl, rfl, rfl, (upd_ne hi : upd (sg 14) mm 0 i = sg 14 i), rfl⟩) (by
      refine ⟨nm, nmb, hs1, hnb, ?_⟩
      rw [e14]
      exact Or.inl ⟨h6, T, ho1, hT⟩)
    have hD1 : RD (va_up sg 14 (upd (sg 14) mm 0)) cv cp cm := hD
    refine jj_go C 1 rfl ?_
    refine jj_getf C rfl fl_BS_97 (hf1 _ _ (hS0.obj a1 (by omega)) a1) rfl ?_
    refine jj_go C 1 rfl ?_
    refine jj_getf C rfl fl_BS_221_CT ho1 rfl ?_
    refine jj_top h7 ?_
    refine jj_iald C (n := 5) (f := V) rfl (hf1 _ _ (fun q => co_ne 205 7 a3 ho rfl rfl (by decide) (List.mem_singleton.mp q)) a3) rfl hw (by decide) ?_
    refine jj_top v1 ?_
    refine jj_go C 3 rfl ?_
    obtain ⟨N, M9, R9, hF⟩ : ∃ N M9 R9, cn_f (mu mm) (sg 11 mm) (sg 12 mm) (sg 13 mm) (sg 8 mm) (sg 9 mm) (sg 3 (5 * b + w)) = (N, M9, R9) := ⟨_, _, _, rfl⟩
    have hob : ob_1 rh mm (sg, mu, io) = (if N = true then gv_sg (cn_sg (va_up sg 14 (upd (sg 14) mm 0)) mm (sg 3 (5 * b + w)) R9) io 2 (nI mm) (sg 3 (5 * b + w)) else cn_sg (va_up sg 14 (upd (sg 14) mm 0)) mm (sg 3 (5 * b + w)) R9, vp_updL mu mm M9, if N = true then gv_io io 2 else io) := by
      unfold ob_1
      rw [show ob_v rh (sg, mu, io).1 mm = some (sg 3 (5 * b + w)) from hov]
      show (if sg 6 mm = 1 then ob_c (va_up sg 14 (upd (sg 14) mm 0)) mu io mm (sg 3 (5 * b + w)) else ob_g (va_up sg 14 (upd (sg 14) mm 0)) mu io mm (sg 3 (5 * b + w))) = _
      rw [if_pos h6]
      unfold ob_c
      rw [show cn_f (mu mm) (va_up sg 14 (upd (sg 14) mm 0) 11 mm) (va_up sg 14 (upd (sg 14) mm 0) 12 mm) (va_up sg 14 (upd (sg 14) mm 0) 13 mm) (va_up sg 14 (upd (sg 14) mm 0) 8 mm) (va_up sg 14 (upd (sg 14) mm 0) 9 mm) (sg 3 (5 * b + w)) = (N, M9, R9) from hF]
    refine jj_callU C rfl ho1 rfl mu_BS_227c (ct_kindFor ho1 (show cn_f (mu mm) (sg 11 mm) (sg 12 mm) T (sg 8 mm) (sg 9 mm) (sg 3 (5 * b + w)) = (N, M9, R9) by rw [cn_f_T hT]; exact hF)) (rest := []) rfl rfl ⟨(Nat.le_of_ble_eq_true rfl), (Nat.le_of_ble_eq_true rfl)⟩ (Nat.le_of_ble_eq_true rfl) (Nat.le_of_ble_eq_true rfl) (Nat.le_of_ble_eq_true rfl) ?_
    rintro q9 h2 ⟨rfl, ho2, hf2⟩
    have hs2 := tx hC1 ho1 hs1 hf2
    have hC2 := hC1.mon (sg' := cn_sg (va_up sg 14 (upd (sg 14) mm 0)) mm (sg 3 (5 * b + w)) R9) (mu' := vp_updL mu mm M9) hA hD1 hmm hp ho1 (by omega) hf2 (fun k hk => cn_sg_n (by revert hk; revert k; decide)) (fun i hi => ⟨rfl, rfl, rfl, (upd_ne hi : upd (sg 11) mm R9 i = sg 11 i), (upd_ne hi : upd (sg 12) mm 1 i = sg 12 i), (upd_ne hi : upd (sg 13) mm (sg 3 (5 * b + w)) i = sg 13 i), rfl, if_neg hi⟩) (by
      refine ⟨nm, nmb, hs2, hnb, Or.inl ⟨h6, sg 3 (5 * b + w), ?_, fun _ => (upd_at : upd (sg 13) mm (sg 3 (5 * b + w)) mm = _).symm⟩⟩
      rw [show vp_updL mu mm M9 mm = M9 from if_pos rfl, show cn_sg (va_up sg 14 (upd (sg 14) mm 0)) mm (sg 3 (5 * b + w)) R9 11 mm = R9 from (upd_at : upd (sg 11) mm R9 mm = R9), show cn_sg (va_up sg 14 (upd (sg 14) mm 0)) mm (sg 3 (5 * b + w)) R9 12 mm = 1 from (upd_at : upd (sg 12) mm 1 mm = 1), show cn_sg (va_up sg 14 (upd (sg 14) mm 0)) mm (sg 3 (5 * b + w)) R9 14 mm = 0 from e14]
      exact ho2)
    cases N with
    | false =>
      refine jj_go C 3 rfl ?_
      refine jj_if C rfl (fun _ => ?_) (fun z => absurd rfl z)
      refine jj_vret C rfl rfl (Nat.le_of_ble_eq_true rfl) (Nat.le_of_ble_eq_true rfl) ⟨rfl, nl, ?_⟩
      rw [hob]
      exact ⟨hC2, h17, (subM hf1).tr (subM hf2)⟩
    | true =>
      refine jj_go C 3 rfl ?_
      refine jj_if C rfl (fun z => absurd z (by decide)) (fun _ => ?_)
      obtain ⟨nx, F, -, -, ho4, -⟩ := hC2.2.2.2.2.2.2.2.2.1
      refine jj_go C 1 rfl ?_
      refine jj_getf C rfl fl_BS_41 hC2.1 rfl ?_
      refine jj_go C 3 rfl ?_
      refine jj_callV C rfl ml_BS_85 wd_510 ho4 rfl se_LG_LG_give (bs_give (k := 2) (s0 := nI mm) (v0 := sg 3 (5 * b + w)) hA hC2 h17) (rest := []) rfl rfl ⟨Nat.le_of_ble_eq_true rfl, Nat.le_of_ble_eq_true rfl⟩ (Nat.le_of_ble_eq_true rfl) (Nat.le_of_ble_eq_true rfl) (Nat.le_of_ble_eq_true rfl) ?_
      rintro q9 h3 ⟨rfl, nl3, hC3, h173, hf3⟩
      refine jj_vret C rfl rfl (Nat.le_of_ble_eq_true rfl) (Nat.le_of_ble_eq_true rfl) ⟨rfl, nl3, ?_⟩
      rw [hob]
      exact ⟨hC3, h173, ((subM hf1).tr (subM hf2)).tr (subL hf3)⟩
theorem bs_letLookG {mm w nm nmb : Nat} {sd : Int32} (hA : jA aC) (hC : RC aC h r0 b0 ca cv cp cm nn rh sg mu io bm nq nl lp fb fq fm) (hD : RD sg cv cp cm) (hmm : mm < 6) (hw : w < 5) (h7 : sg 7 mm = nI w) (h6 : sg 6 mm = 2) (hnm : kx_ST aC h nm nmb (rh (12 + mm))) (hnb : nmb ≠ b0) (hlen : (rh (12 + mm)).length ≤ 60) (ho : h (cm mm) = some (.inr (8, ga_fs (sg 8 mm) (sg 9 mm) sd nm (sg 7 mm) (sg 14 mm)))) (hT : mu mm = sd.toInt64) (hnn : ∀ i, i < 12 → ¬ sg 2 i = 0 → rh i = px_fo (nn i) ∧ (rh i).length ≤ 60) (h17 : io 17 = nI nl) : jj_Ct l D aC base yn_BS_letLook yb_BS_letLook 6 none 3 0 0 [.ref (ca 0), .ref (cm mm), .int (nI mm)] h (fun q h' => lk_P aC h r0 b0 ca cv cp cm nn rh (ob_1 rh mm (sg, mu, io)) bm nq lp fb fq fm ([cm mm] ++ lg_S (ca 6) (fun w => ca (7 + w))) q h') := by
  have hx := hC.1
  have hp : ¬ sg 6 mm = 0 := by rw [h6]; decide
  have hmo : cm mm ∉ lg_S (ca 6) (fun w => ca (7 + w)) := cm_log hC ho (by omega)
  have subM : ∀ {g g' : jjHp}, jj_fr [cm mm] g g' → jj_fr ([cm mm] ++ lg_S (ca 6) (fun w => ca (7 + w))) g g' := fun hf => hf.mono (fun c hc => List.mem_append_left _ hc)
  have subL : ∀ {g g' : jjHp}, jj_fr (lg_S (ca 6) (fun w => ca (7 + w))) g g' → jj_fr ([cm mm] ++ lg_S (ca 6) (fun w => ca (7 + w))) g g' := fun hf => hf.mono (fun c hc => List.mem_append_right _ hc)
  have tx : ∀ {g g' : jjHp} {sg1 : Nat → Nat → Int32} {mu1 : Nat → Int64} {io1 : Nat → Int32} {nl1 : Nat} {fs : List Value}, RC aC g r0 b0 ca cv cp cm nn rh sg1 mu1 io1 bm nq nl1 lp fb fq fm → g (cm mm) = some (.inr (8, fs)) → kx_ST aC g nm nmb (rh (12 + mm)) → jj_fr [cm mm] g g' → kx_ST aC g' nm nmb (rh (12 + mm)) := by
    intro g g' sg1 mu1 io1 nl1 fs hC1 ho1 hs1 hf1
    obtain ⟨fB, fsB, hB0, -⟩ := hC1.sb
    exact hs1.sf hnb ((SF.nil hB0).cons ho1 (bz_o (r0 := r0) (by decide))) hf1
  refine jj_start (tb := tb_BS_letLook) (by decide) tg_BS_letLook (Nat.le_of_ble_eq_true rfl) ?_
  intro p e s m args below meth cc C
  -- the end of the quiet way
  have tail : ∀ (g : jjHp) (sg1 : Nat → Nat → Int32) (io1 : Nat → Int32) (nl1 : Nat) (v3 : Value), RC aC g r0 b0 ca cv cp cm nn rh sg1 mu io1 bm nq nl1 lp fb fq fm → g (cm mm) = some (.inr (8, ga_fs (sg 8 mm) (sg 9 mm) sd nm (sg 7 mm) (sg 14 mm))) → kx_ST aC g nm nmb (rh (12 + mm)) → (∀ k, k ≠ 18 → sg1 k = sg k) → io1 17 = nI nl1 → jj_fr ([cm mm] ++ lg_S (ca 6) (fun w => ca (7 + w))) h g → ob_1 rh mm (sg, mu, io) = (va_up sg1 14 (upd (sg1 14) mm 1), mu, io1) → jj_J p l e (jj_rm 3 0 0) s m args below meth cc D base 6 (MQ below (jj_Q D base (fun q h' => lk_P aC h r0 b0 ca cv cp cm nn rh (ob_1 rh mm (sg, mu, io)) bm nq lp fb fq fm ([cm mm] ++ lg_S (ca 6) (fun w => ca (7 + w))) q h')) args s 0 0 (jj_A base)) 46 [(0, .ref (ca 0)), (1, .ref (cm mm)), (2, .int (nI mm)), (3, v3)] [] g 0 0 := by
    intro g sg1 io1 nl1 v3 hCg hog hsg hsk h171 hfg hob
    have hDg : RD sg1 cv cp cm := by
      unfold RD
      rw [hsk 2 (by decide), hsk 6 (by decide)]
      exact hD
    refine jj_go C 2 rfl ?_
    refine jj_putf C rfl fl_BS_224_GA hog rfl rfl (Nat.le_of_ble_eq_true rfl) ?_
    have hf2 : jj_fr [cm mm] g (jj_up g (cm mm) (.inr (8, ga_fs (sg 8 mm) (sg 9 mm) sd nm (sg 7 mm) 1))) := jj_fr.rf.up (Or.inl List.mem_cons_self)
    have ho2 : jj_up g (cm mm) (.inr (8, ga_fs (sg 8 mm) (sg 9 mm) sd nm (sg 7 mm) 1)) (cm mm) = some (.inr (8, ga_fs (sg 8 mm) (sg 9 mm) sd nm (sg 7 mm) 1)) := jj_up_s
    refine jj_eq (h' := jj_up g (cm mm) (.inr (8, ga_fs (sg 8 mm) (sg 9 mm) sd nm (sg 7 mm) 1))) rfl rfl rfl rfl ?_
    generalize jj_up g (cm mm) (.inr (8, ga_fs (sg 8 mm) (sg 9 mm) sd nm (sg 7 mm) 1)) = g2 at hf2 ho2 ⊢
    have hs2 := tx hCg hog hsg hf2
    have hC2 := hCg.mon (sg' := va_up sg1 14 (upd (sg1 14) mm 1)) (mu' := mu) hA hDg hmm (by rw [hsk 6 (by decide)]; exact hp) hog (by omega) hf2 (fun k hk => if_neg (by intro q; rw [q] at hk; revert hk; decide)) (fun i hi => ⟨rfl, rfl, rfl, rfl, rfl, rfl, (upd_ne hi : upd (sg1 14) mm 1 i = sg1 14 i), rfl⟩) (by
      refine ⟨nm, nmb, hs2, hnb, ?_⟩
      have e14 : va_up sg1 14 (upd (sg1 14) mm 1) 14 mm = 1 := (upd_at : upd (sg1 14) mm 1 mm = 1)
      have en : ∀ k, k ≠ 14 → k ≠ 18 → va_up sg1 14 (upd (sg1 14) mm 1) k = sg k := fun k a b => (if_neg a).trans (hsk k b)
      rw [e14, en 6 (by decide) (by decide), en 7 (by decide) (by decide), en 8 (by decide) (by decide), en 9 (by decide) (by decide), en 11 (by decide) (by decide), en 12 (by decide) (by decide), en 13 (by decide) (by decide)]
      exact Or.inr ⟨h6, sd, ho2, hT⟩)
    refine jj_vret C rfl rfl (Nat.le_of_ble_eq_true rfl) (Nat.le_of_ble_eq_true rfl) ⟨rfl, nl1, ?_⟩
    rw [hob]
    exact ⟨hC2, h171, hfg.tr (subM hf2)⟩
  have err : ∀ v3 : Value, ob_v rh sg mm = none → jj_J p l e (jj_rm 3 0 0) s m args below meth cc D base 6 (MQ below (jj_Q D base (fun q h' => lk_P aC h r0 b0 ca cv cp cm nn rh (ob_1 rh mm (sg, mu, io)) bm nq lp fb fq fm ([cm mm] ++ lg_S (ca 6) (fun w => ca (7 + w))) q h')) args s 0 0 (jj_A base)) 29 [(0, .ref (ca 0)), (1, .ref (cm mm)), (2, .int (nI mm)), (3, v3)] [] h 0 0 := by
    intro v3 hov
    have hob : ob_1 rh mm (sg, mu, io) = ob_e sg mu io mm := by
      unfold ob_1
      rw [show ob_v rh (sg, mu, io).1 mm = none from hov]
    refine jj_go C 1 rfl ?_
    refine jj_getf C rfl fl_BS_224_GA ho rfl ?_
    refine jj_if C rfl (fun z => ?_) (fun z => ?_)
    · obtain ⟨nx, F, -, -, ho4, -⟩ := hC.2.2.2.2.2.2.2.2.1
      refine jj_go C 1 rfl ?_
      refine jj_getf C rfl fl_BS_41 hx rfl ?_
      refine jj_go C 3 rfl ?_
      refine jj_callV C rfl ml_BS_85 wd_510 ho4 rfl se_LG_LG_give (bs_give (k := 5) (s0 := nI mm) (v0 := 0) hA hC h17) (rest := []) rfl rfl ⟨Nat.le_of_ble_eq_true rfl, Nat.le_of_ble_eq_true rfl⟩ (Nat.le_of_ble_eq_true rfl) (Nat.le_of_ble_eq_true rfl) (Nat.le_of_ble_eq_true rfl) ?_
      rintro q9 g ⟨rfl, nl1, hC1, h171, hf1⟩
      have hs1 := hnm.sf hnb (hC.logSF hA) hf1
      refine tail g (gv_sg sg io 5 (nI mm) 0) (gv_io io 5) nl1 v3 hC1 (hf1 _ _ hmo ho) hs1 (fun k hk => gv_sg_n hk) h171 (subL hf1) ?_
      rw [hob]
      unfold ob_e
      rw [if_pos z, gv_sg_n (by decide), gv_sg_up (by decide)]
    · refine tail h sg io nl v3 hC ho hnm (fun _ _ => rfl) h17 jj_fr.rf ?_
      rw [hob]
      unfold ob_e
      rw [if_neg z]
  refine jj_go C 3 rfl ?_
  refine jj_getf C rfl fl_BS_219_GA ho rfl ?_
  refine jj_callV C rfl ml_BS_75 wd_474 hx rfl se_BS_BS_beanNamed (bs_beanNamed (rh := rh) hx hC.2.2.1 hC.2.2.2.1 hnn hnm hlen) (rest := [.ref (ca 0)]) rfl rfl ⟨Nat.le_of_ble_eq_true rfl, Nat.le_of_ble_eq_true rfl⟩ (Nat.le_of_ble_eq_true rfl) (Nat.le_of_ble_eq_true rfl) (Nat.le_of_ble_eq_true rfl) ?_
  rintro q9 h9 ⟨rfl, hh9⟩
  rw [hh9]
  cases hbw : px_bw (sg 2) rh (rh (12 + mm)) 12 0 with
  | none =>
    refine jj_top (x' := -2) rfl ?_
    refine jj_callV C rfl ml_BS_89 wd_528 hx rfl se_BS_BS_beanAt (bs_beanAt (x := -2) hx hC.2.2.1) (rest := []) rfl rfl ⟨Nat.le_of_ble_eq_true rfl, Nat.le_of_ble_eq_true rfl⟩ (Nat.le_of_ble_eq_true rfl) (Nat.le_of_ble_eq_true rfl) (Nat.le_of_ble_eq_true rfl) ?_
    rintro q9 h9 ⟨rfl, hh9⟩
    rw [hh9]
    rw [show bs_at fb 12 (-2) = none from rfl]
    refine jj_go C 3 rfl ?_
    exact err _ (by unfold ob_v; rw [hbw])
  | some b =>
    obtain ⟨-, hb12, hpb, -⟩ := px_bw_lt 12 0 hbw
    have hb12 : b < 12 := by omega
    refine jj_top (x' := nI b) rfl ?_
    refine jj_callV C rfl ml_BS_89 wd_528 hx rfl se_BS_BS_beanAt (bs_beanAt (x := nI b) hx hC.2.2.1) (rest := []) rfl rfl ⟨Nat.le_of_ble_eq_true rfl, Nat.le_of_ble_eq_true rfl⟩ (Nat.le_of_ble_eq_true rfl) (Nat.le_of_ble_eq_true rfl) (Nat.le_of_ble_eq_true rfl) ?_
    rintro q9 h9 ⟨rfl, hh9⟩
    rw [hh9]
    obtain ⟨be, hfb, pt, V, B, a1, a2, a3, a4, a5⟩ : ∃ be, fb b = some be ∧ RB1 aC h b0 r0 cv cp nn sg b be := by
      rcases hC.2.2.2.1 b hb12 with ⟨q, -⟩ | ⟨-, be, q1, q2⟩
      · exact absurd q hpb
      · exact ⟨be, q1, q2⟩
    obtain ⟨v1, v2⟩ := a5 w hw
    rw [bs_at_n hb12 (by decide), hfb]
    refine jj_go C 4 rfl ?_
    refine jj_getf C rfl fl_BS_100 a1 rfl ?_
    refine jj_go C 1 rfl ?_
    refine jj_getf C rfl fl_BS_221_GA ho rfl ?_
    refine jj_top h7 ?_
    refine jj_zald C (n := 5) (f := B) rfl a4 rfl hw (by decide) ?_
    have hcl : (sg 7 mm).toNatClampNeg = w := by rw [h7]; exact nI_clamp (by omega)
    have hov : ob_v rh sg mm = if sg 4 (5 * b + w) = 0 then none else some (sg 3 (5 * b + w)) := by
      unfold ob_v
      rw [hbw]
      show (if sg 4 (5 * b + (sg 7 mm).toNatClampNeg) = 0 then none else some (sg 3 (5 * b + (sg 7 mm).toNatClampNeg))) = _
      rw [hcl]
    refine jj_if C rfl (fun z => err _ (by rw [hov, if_pos (by rw [← v2]; exact z)])) (fun z => ?_)
    rw [v2] at z
    rw [if_neg z] at hov
    refine jj_go C 2 rfl ?_
    refine jj_putf C rfl fl_BS_224_GA ho rfl rfl (Nat.le_of_ble_eq_true rfl) ?_
    have hf1 : jj_fr [cm mm] h (jj_up h (cm mm) (.inr (8, ga_fs (sg 8 mm) (sg 9 mm) sd nm (sg 7 mm) 0))) := jj_fr.rf.up (Or.inl List.mem_cons_self)
    have ho1 : jj_up h (cm mm) (.inr (8, ga_fs (sg 8 mm) (sg 9 mm) sd nm (sg 7 mm) 0)) (cm mm) = some (.inr (8, ga_fs (sg 8 mm) (sg 9 mm) sd nm (sg 7 mm) 0)) := jj_up_s
    refine jj_eq (h' := jj_up h (cm mm) (.inr (8, ga_fs (sg 8 mm) (sg 9 mm) sd nm (sg 7 mm) 0))) rfl rfl rfl rfl ?_
    generalize jj_up h (cm mm) (.inr (8, ga_fs (sg 8 mm) (sg 9 mm) sd nm (sg 7 mm) 0)) = h1 at hf1 ho1 ⊢
    have hs1 := tx hC ho hnm hf1
    have hS0 : SF aC h r0 b0 [cm mm] := by
      obtain ⟨fB, fsB, hB0, -⟩ := hC.sb
      exact (SF.nil hB0).cons ho (bz_o (by decide))
    have e14 : va_up sg 14 (upd (sg 14) mm 0) 14 mm = 0 := (upd_at : upd (sg 14) mm 0 mm = 0)
    have hC1 := hC.mon (sg' := va_up sg 14 (upd (sg 14) mm 0)) (mu' := mu) hA hD hmm hp ho (by omega) hf1 (fun k hk => if_neg (by intro q; rw [q] at hk; revert hk; decide)) (fun i hi => ⟨rfl, rfl, rfl, rfl, rfl, rfl, (upd_ne hi : upd (sg 14) mm 0 i = sg 14 i), rfl⟩) (by
      refine ⟨nm, nmb, hs1, hnb, ?_⟩
      rw [e14]
      exact Or.inr ⟨h6, sd, ho1, hT⟩)
    have hD1 : RD (va_up sg 14 (upd (sg 14) mm 0)) cv cp cm := hD
    refine jj_go C 1 rfl ?_
    refine jj_getf C rfl fl_BS_97 (hf1 _ _ (hS0.obj a1 (by omega)) a1) rfl ?_
    refine jj_go C 1 rfl ?_
    refine jj_getf C rfl fl_BS_221_GA ho1 rfl ?_
    refine jj_top h7 ?_
    refine jj_iald C (n := 5) (f := V) rfl (hf1 _ _ (fun q => co_ne 205 8 a3 ho rfl rfl (by decide) (List.mem_singleton.mp q)) a3) rfl hw (by decide) ?_
    refine jj_top v1 ?_
    refine jj_go C 3 rfl ?_
    have hob : ob_1 rh mm (sg, mu, io) = ob_g (va_up sg 14 (upd (sg 14) mm 0)) mu io mm (sg 3 (5 * b + w)) := by
      unfold ob_1
      rw [show ob_v rh (sg, mu, io).1 mm = some (sg 3 (5 * b + w)) from hov]
      show (if sg 6 mm = 1 then ob_c (va_up sg 14 (upd (sg 14) mm 0)) mu io mm (sg 3 (5 * b + w)) else ob_g (va_up sg 14 (upd (sg 14) mm 0)) mu io mm (sg 3 (5 * b + w))) = _
      rw [if_neg (by rw [h6]; decide)]
    have hgg : gg_f (mu mm) (sg 8 mm) (sg 9 mm) (sg 3 (5 * b + w)) = (ga_f sd (sg 8 mm) (sg 9 mm) (sg 3 (5 * b + w))).map (fun q => (q.1, q.2.toInt64)) := by
      rw [hT]
      exact gg_ga
    refine jj_callU C rfl ho1 rfl mu_BS_227g (ga_kindFor (v := sg 3 (5 * b + w)) ho1) (rest := []) rfl rfl ⟨(Nat.le_of_ble_eq_true rfl), (Nat.le_of_ble_eq_true rfl)⟩ (Nat.le_of_ble_eq_true rfl) (Nat.le_of_ble_eq_true rfl) (Nat.le_of_ble_eq_true rfl) ?_
    rintro q9 h2 (⟨hg, rfl, hh2⟩ | ⟨k, sd', hg, rfl, ho2, hf2⟩)
    · subst hh2
      refine jj_go C 3 rfl ?_
      refine jj_if C rfl (fun _ => ?_) (fun z => absurd rfl z)
      refine jj_vret C rfl rfl (Nat.le_of_ble_eq_true rfl) (Nat.le_of_ble_eq_true rfl) ⟨rfl, nl, ?_⟩
      rw [hob]
      unfold ob_g
      rw [show gg_f (mu mm) (va_up sg 14 (upd (sg 14) mm 0) 8 mm) (va_up sg 14 (upd (sg 14) mm 0) 9 mm) (sg 3 (5 * b + w)) = none from by rw [show va_up sg 14 (upd (sg 14) mm 0) 8 mm = sg 8 mm from rfl, show va_up sg 14 (upd (sg 14) mm 0) 9 mm = sg 9 mm from rfl, hgg, hg]; rfl]
      exact ⟨hC1, h17, subM hf1⟩
    · have hs2 := tx hC1 ho1 hs1 hf2
      have hC2 := hC1.mon (sg' := va_up sg 14 (upd (sg 14) mm 0)) (mu' := vp_updL mu mm sd'.toInt64) hA hD1 hmm hp ho1 (by omega) hf2 (fun k hk => rfl) (fun i hi => ⟨rfl, rfl, rfl, rfl, rfl, rfl, rfl, if_neg hi⟩) (by
        refine ⟨nm, nmb, hs2, hnb, Or.inr ⟨h6, sd', ?_, if_pos rfl⟩⟩
        rw [e14]
        exact ho2)
      refine jj_go C 3 rfl ?_
      refine jj_if C rfl (fun z => absurd z (ga_k hg)) (fun _ => ?_)
      obtain ⟨nx, F, -, -, ho4, -⟩ := hC2.2.2.2.2.2.2.2.2.1
      refine jj_go C 1 rfl ?_
      refine jj_getf C rfl fl_BS_41 hC2.1 rfl ?_
      refine jj_go C 3 rfl ?_
      refine jj_callV C rfl ml_BS_85 wd_510 ho4 rfl se_LG_LG_give (bs_give (k := k) (s0 := nI mm) (v0 := sg 3 (5 * b + w)) hA hC2 h17) (rest := []) rfl rfl ⟨Nat.le_of_ble_eq_true rfl, Nat.le_of_ble_eq_true rfl⟩ (Nat.le_of_ble_eq_true rfl) (Nat.le_of_ble_eq_true rfl) (Nat.le_of_ble_eq_true rfl) ?_
      rintro q9 h3 ⟨rfl, nl3, hC3, h173, hf3⟩
      refine jj_vret C rfl rfl (Nat.le_of_ble_eq_true rfl) (Nat.le_of_ble_eq_true rfl) ⟨rfl, nl3, ?_⟩
      rw [hob]
      unfold ob_g
      rw [show gg_f (mu mm) (va_up sg 14 (upd (sg 14) mm 0) 8 mm) (va_up sg 14 (upd (sg 14) mm 0) 9 mm) (sg 3 (5 * b + w)) = some (k, sd'.toInt64) from by rw [show va_up sg 14 (upd (sg 14) mm 0) 8 mm = sg 8 mm from rfl, show va_up sg 14 (upd (sg 14) mm 0) 9 mm = sg 9 mm from rfl, hgg, hg]; rfl]
      exact ⟨hC3, h173, ((subM hf1).tr (subM hf2)).tr (subL hf3)⟩
/-- the cells that the class's observe may change -/
def ob_S (ca cm : Nat → Nat) (sg : Nat → Nat → Int32) : List Nat := lg_S (ca 6) (fun w => ca (7 + w)) ++ ((List.range 6).filter (fun i => !(sg 6 i == 0))).map cm
theorem ob_S_m {i : Nat} (hi : i < 6) (hp : ¬ sg 6 i = 0) : cm i ∈ ob_S ca cm sg := List.mem_append_right _ (List.mem_map.mpr ⟨i, List.mem_filter.mpr ⟨List.mem_range.mpr hi, by simp [hp]⟩, rfl⟩)
theorem ob_S_i {c : Nat} (h : c ∈ ob_S ca cm sg) : c ∈ lg_S (ca 6) (fun w => ca (7 + w)) ∨ ∃ i, i < 6 ∧ ¬ sg 6 i = 0 ∧ c = cm i := by
  rcases List.mem_append.mp h with q | q
  · exact Or.inl q
  · obtain ⟨i, q1, q2⟩ := List.mem_map.mp q
    obtain ⟨q3, q4⟩ := List.mem_filter.mp q1
    exact Or.inr ⟨i, List.mem_range.mp q3, by simpa using q4, q2.symm⟩
theorem bs_observe (hA : jA aC) (hC : RC aC h r0 b0 ca cv cp cm nn rh sg mu io bm nq nl lp fb fq fm) (hD : RD sg cv cp cm) (hw : ∀ m, m < 6 → ¬ sg 6 m = 0 → ∃ w, w < 5 ∧ sg 7 m = nI w) (hlen : ∀ m, m < 6 → ¬ sg 6 m = 0 → (rh (12 + m)).length ≤ 60) (hnn : ∀ i, i < 12 → ¬ sg 2 i = 0 → rh i = px_fo (nn i) ∧ (rh i).length ≤ 60) (h17 : io 17 = nI nl) : jj_Ct l D aC base yn_BS_observe yb_BS_observe 3 (some .int) 4 0 0 [.ref (ca 0)] h (fun q h' => q = some (.int ((ob_all rh 6 0 (sg, mu, io)).2.2 15 - io 15)) ∧ ∃ nl', RC aC h' r0 b0 ca cv cp cm nn rh (ob_all rh 6 0 (sg, mu, io)).1 (ob_all rh 6 0 (sg, mu, io)).2.1 (ob_all rh 6 0 (sg, mu, io)).2.2 bm nq nl' lp fb fq fm ∧ (ob_all rh 6 0 (sg, mu, io)).2.2 17 = nI nl' ∧ jj_fr (ob_S ca cm sg) h h') := by
  obtain ⟨nx, F, -, -, ho, -⟩ := hC.2.2.2.2.2.2.2.2.1
  refine jj_start (tb := tb_BS_observe) (by decide) tg_BS_observe (Nat.le_of_ble_eq_true rfl) ?_
  intro p e s m args below meth cc C
  have loop : ∀ (k j : Nat) (v : Int32) (g : jjHp) (s9 : obS) (nl1 : Nat), v = nI j → j + k = 6 → ob_all rh k j s9 = ob_all rh 6 0 (sg, mu, io) → (∀ i, i < 11 → s9.1 i = sg i) → RC aC g r0 b0 ca cv cp cm nn rh s9.1 s9.2.1 s9.2.2 bm nq nl1 lp fb fq fm → s9.2.2 17 = nI nl1 → jj_fr (ob_S ca cm sg) h g → jj_J p l e (jj_rm 4 0 0) s m args below meth cc D base 3 (MQ below (jj_Q D base (fun q h' => q = some (.int ((ob_all rh 6 0 (sg, mu, io)).2.2 15 - io 15)) ∧ ∃ nl', RC aC h' r0 b0 ca cv cp cm nn rh (ob_all rh 6 0 (sg, mu, io)).1 (ob_all rh 6 0 (sg, mu, io)).2.1 (ob_all rh 6 0 (sg, mu, io)).2.2 bm nq nl' lp fb fq fm ∧ (ob_all rh 6 0 (sg, mu, io)).2.2 17 = nI nl' ∧ jj_fr (ob_S ca cm sg) h h')) args s 0 0 (jj_A base)) 10 [(0, .ref (ca 0)), (1, .int (io 15)), (2, .int v)] [] g 0 0 := by
    intro k
    induction k with
    | zero =>
      intro j v g s9 nl1 hv hk hob hsk hCg h171 hfg
      have hj : j = 6 := by omega
      subst hj
      have hob : s9 = ob_all rh 6 0 (sg, mu, io) := hob
      refine jj_go C 2 rfl ?_
      refine jj_if C rfl (fun _ => ?_) (fun z => absurd (by rw [hv]; decide) z)
      obtain ⟨nx9, F9, -, -, ho9, -⟩ := hCg.2.2.2.2.2.2.2.2.1
      refine jj_go C 1 rfl ?_
      refine jj_getf C rfl fl_BS_41 hCg.1 rfl ?_
      refine jj_getf C rfl fl_BS_183 ho9 rfl ?_
      refine jj_go C 2 rfl ?_
      refine jj_iret C rfl rfl rfl (Nat.le_of_ble_eq_true rfl) (Nat.le_of_ble_eq_true rfl) ⟨by rw [hob], nl1, ?_⟩
      rw [← hob]
      exact ⟨hCg, h171, hfg⟩
    | succ k ih =>
      intro j v g s9 nl1 hv hk hob hsk hCg h171 hfg
      have hlt : j < 6 := by omega
      have hob2 : ob_all rh k (j + 1) (if s9.1 6 j ≤ 0 then s9 else ob_1 rh j s9) = ob_all rh 6 0 (sg, mu, io) := hob
      have s6 := hsk 6 (by decide)
      have hDg : RD s9.1 cv cp cm := by
        unfold RD
        rw [s6, hsk 2 (by decide)]
        exact hD
      refine jj_go C 2 rfl ?_
      refine jj_if C rfl (fun z => absurd z (by rw [hv]; exact nI_ge (b := 6) hlt (by decide))) (fun _ => ?_)
      refine jj_go C 1 rfl ?_
      refine jj_getf C rfl fl_BS_34 hCg.1 rfl ?_
      refine jj_go C 1 rfl ?_
      refine jj_aald C 7 rfl hCg.2.2.2.2.2.2.1 rfl hv hlt (by decide) ?_
      rcases hCg.2.2.2.2.2.2.2.1.le hlt with ⟨q1, -, q2⟩ | ⟨q1, q0, q2⟩
      · rw [q2]
        rw [if_pos q1] at hob2
        refine jj_go C 3 rfl ?_
        exact ih (j + 1) (v + 1) g s9 nl1 (by rw [hv, nI_1]) (by omega) hob2 hsk hCg h171 hfg
      · rw [q2]
        rw [if_neg q1] at hob2
        have p0 : ¬ sg 6 j = 0 := by rw [← s6]; exact q0
        refine jj_go C 3 rfl ?_
        refine jj_getf C rfl fl_BS_34 hCg.1 rfl ?_
        refine jj_go C 1 rfl ?_
        refine jj_aald C 7 rfl hCg.2.2.2.2.2.2.1 rfl hv hlt (by decide) ?_
        rw [q2]
        refine jj_go C 1 rfl ?_
        refine jj_top hv ?_
        obtain ⟨w, w5, hw7⟩ := hw j hlt p0
        have hl9 := hlen j hlt p0
        have hnn9 : ∀ i, i < 12 → ¬ s9.1 2 i = 0 → rh i = px_fo (nn i) ∧ (rh i).length ≤ 60 := by
          rw [hsk 2 (by decide)]
          exact hnn
        have fin : ∀ {q9 : Option Value} {g2 : jjHp}, lk_P aC g r0 b0 ca cv cp cm nn rh (ob_1 rh j s9) bm nq lp fb fq fm ([cm j] ++ lg_S (ca 6) (fun w => ca (7 + w))) q9 g2 → jj_J p l e (jj_rm 4 0 0) s m args below meth cc D base 3 (MQ below (jj_Q D base (fun q h' => q = some (.int ((ob_all rh 6 0 (sg, mu, io)).2.2 15 - io 15)) ∧ ∃ nl', RC aC h' r0 b0 ca cv cp cm nn rh (ob_all rh 6 0 (sg, mu, io)).1 (ob_all rh 6 0 (sg, mu, io)).2.1 (ob_all rh 6 0 (sg, mu, io)).2.2 bm nq nl' lp fb fq fm ∧ (ob_all rh 6 0 (sg, mu, io)).2.2 17 = nI nl' ∧ jj_fr (ob_S ca cm sg) h h')) args s 0 0 (jj_A base)) 36 [(0, .ref (ca 0)), (1, .int (io 15)), (2, .int v)] [] g2 0 0 := by
          rintro q9 g2 ⟨-, nl2, hC2, h172, hf2⟩
          refine jj_go C 2 rfl ?_
          exact ih (j + 1) (v + 1) g2 (ob_1 rh j s9) nl2 (by rw [hv, nI_1]) (by omega) hob2 (fun i hi => (ob_1_n hi).trans (hsk i hi)) hC2 h172 (hfg.tr (hf2.mono (fun c hc => by
            rcases List.mem_append.mp hc with q | q
            · rw [List.mem_singleton.mp q]
              exact ob_S_m hlt p0
            · exact List.mem_append_left _ q)))
        rcases hCg.2.2.2.2.2.2.2.1 j hlt with ⟨z, -⟩ | ⟨-, -, nm, nmb, a1, a2, ⟨b1, T, b2, b3⟩ | ⟨b1, sd, b2, b3⟩⟩
        · exact absurd z q0
        · refine jj_callV C rfl ml_BS_186 wd_823 hCg.1 rfl se_BS_BS_letLook (bs_letLookC (w := w) hA hCg hDg hlt w5 (by rw [hsk 7 (by decide)]; exact hw7) b1 a1 a2 hl9 b2 b3 hnn9 h171) (rest := []) rfl rfl ⟨Nat.le_of_ble_eq_true rfl, Nat.le_of_ble_eq_true rfl⟩ (Nat.le_of_ble_eq_true rfl) (Nat.le_of_ble_eq_true rfl) (Nat.le_of_ble_eq_true rfl) ?_
          intro q9 g2 hP9
          have hq := hP9.1
          subst hq
          exact fin hP9
        · refine jj_callV C rfl ml_BS_186 wd_823 hCg.1 rfl se_BS_BS_letLook (bs_letLookG (w := w) hA hCg hDg hlt w5 (by rw [hsk 7 (by decide)]; exact hw7) b1 a1 a2 hl9 b2 b3 hnn9 h171) (rest := []) rfl rfl ⟨Nat.le_of_ble_eq_true rfl, Nat.le_of_ble_eq_true rfl⟩ (Nat.le_of_ble_eq_true rfl) (Nat.le_of_ble_eq_true rfl) (Nat.le_of_ble_eq_true rfl) ?_
          intro q9 g2 hP9
          have hq := hP9.1
          subst hq
          exact fin hP9
  refine jj_go C 1 rfl ?_
  refine jj_getf C rfl fl_BS_41 hC.1 rfl ?_
  refine jj_getf C rfl fl_BS_183 ho rfl ?_
  refine jj_go C 3 rfl ?_
  exact loop 6 0 0 h (sg, mu, io) nl rfl rfl rfl (fun _ _ => rfl) hC h17 jj_fr.rf
end PM
