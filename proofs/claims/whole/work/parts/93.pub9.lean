/-! The class's public methods: define -/
theorem px_free_nq {f : Nat → Int32} {nq : Nat} (h5 : ∀ i, i < 6 → (f i = 0 ↔ nq ≤ i)) (hnq : nq ≤ 6) : px_free f 6 0 = if nq < 6 then some nq else none := by
  have key : ∀ k j, j + k = 6 → j ≤ nq → px_free f k j = if nq < 6 then some nq else none := by
    intro k
    induction k with
    | zero =>
      intro j h1 h2
      rw [if_neg (by omega)]
      rfl
    | succ k ih =>
      intro j h1 h2
      unfold px_free
      by_cases hj : nq ≤ j
      · rw [if_pos ((h5 j (by omega)).mpr hj), if_pos (by omega), show j = nq by omega]
      · rw [if_neg (fun q => hj ((h5 j (by omega)).mp q))]
        exact ih (j + 1) (by omega) (by omega)
  exact key 6 0 (by omega) (by omega)
section PJ
variable {l : Launch} {D : va_G} {aC : Nat → ClassId} {base : Nat} {h h' : jjHp} {r0 b0 : Nat} {ca cv cp cm : Nat → Nat} {nn rh rh' : Nat → List Nat} {sg sg' : Nat → Nat → Int32} {mu : Nat → Int64} {io io' : Nat → Int32} {bm nq nq' nl lp lp' : Nat} {fb fq fq' fm : Nat → Option Nat}
/-- other fields of the server itself -/
theorem RC.self (hC : RC aC h r0 b0 ca cv cp cm nn rh sg mu io bm nq nl lp fb fq fm) (hA : jA aC) (h15 : io' 15 = io 15 ∧ io' 16 = io 16) (hQ : RQs aC (jj_up h (ca 0) (.inr (0, bs_fs ca nq' (io' 19) lp'))) b0 rh' nq' fq) (hP : RP aC (jj_up h (ca 0) (.inr (0, bs_fs ca nq' (io' 19) lp'))) b0 rh' lp') (he : ∀ k, k = 33 ∨ (12 ≤ k ∧ k < 18) → rh' k = rh k) : RC aC (jj_up h (ca 0) (.inr (0, bs_fs ca nq' (io' 19) lp'))) r0 b0 ca cv cp cm nn rh' sg mu io' bm nq' nl lp' fb fq fm := by
  have hC0 := hC
  obtain ⟨fB, fsB, hB0, hB1⟩ := hC.sb
  obtain ⟨hx, hsb, hb, hB, hq, -, hm, hM, ⟨nx, F, l1, l2, ho, l4, l5, l6⟩, hs, -⟩ := hC
  have hof := hC0.off hx (show (0 : Nat) ≠ 205 by decide) ⟨show (0 : Nat) ≠ 7 by decide, show (0 : Nat) ≠ 8 by decide⟩
  have hS : SF aC h r0 b0 [ca 0] := (SF.nil hB0).cons hx (bz_o (by decide))
  have m1 : ∀ c, c ≠ ca 0 → c ∉ [ca 0] := fun c hc q => hc (List.mem_singleton.mp q)
  have hf : jj_fr [ca 0] h (jj_up h (ca 0) (.inr (0, bs_fs ca nq' (io' 19) lp'))) := jj_fr.rf.up (Or.inl List.mem_cons_self)
  refine ⟨jj_up_s, by rw [he 33 (Or.inl rfl)]; exact hsb.keep hf (m1 _ (co_ne 11 0 hB1 hx rfl rfl (by decide))) (m1 _ (fun q => by rw [q, hx] at hB0; cases hB0)), hf _ _ (m1 _ (co_ne 112 0 hb hx rfl rfl (by decide))) hb, hB.sf hA hS hf (fun i hi hp => ⟨m1 _ (hof.1 i hi hp).1, m1 _ (hof.1 i hi hp).2⟩), hf _ _ (m1 _ (co_ne 106 0 hq hx rfl rfl (by decide))) hq, hQ, hf _ _ (m1 _ (co_ne 106 0 hm hx rfl rfl (by decide))) hm, (hM.sf hS hf (fun i hi hp => m1 _ (hof.2 i hi hp))).cg (fun i hi => he _ (by omega)), ⟨nx, F, l1, l2, by rw [h15.1, h15.2]; exact hf _ _ (m1 _ (co_ne 2 0 ho hx rfl rfl (by decide))) ho, fun w hw => hf _ _ (m1 _ (co_ne 216 0 (l4 w hw) hx rfl rfl (by decide))) (l4 w hw), l5, l6⟩, hf _ _ (m1 _ (co_ne 212 0 hs hx rfl rfl (by decide))) hs, hP⟩
/-- another array of queries -/
theorem RC.qarr (hC : RC aC h r0 b0 ca cv cp cm nn rh sg mu io bm nq nl lp fb fq fm) (hA : jA aC) (hQ : RQs aC (jj_up h (ca 4) (rfA (aC 6) 6 fq')) b0 rh nq fq') : RC aC (jj_up h (ca 4) (rfA (aC 6) 6 fq')) r0 b0 ca cv cp cm nn rh sg mu io bm nq nl lp fb fq' fm := by
  have hC0 := hC
  obtain ⟨fB, fsB, hB0, hB1⟩ := hC.sb
  obtain ⟨hx, hsb, hb, hB, hq, -, hm, hM, ⟨nx, F, l1, l2, ho, l4, l5, l6⟩, hs, hP⟩ := hC
  have hof := hC0.off hq (show (106 : Nat) ≠ 205 by decide) ⟨show (106 : Nat) ≠ 7 by decide, show (106 : Nat) ≠ 8 by decide⟩
  have hS : SF aC h r0 b0 [ca 4] := (SF.nil hB0).cons hq (bz_a hA (by decide) (by decide) (by decide))
  have m1 : ∀ c, c ≠ ca 4 → c ∉ [ca 4] := fun c hc q => hc (List.mem_singleton.mp q)
  have hf : jj_fr [ca 4] h (jj_up h (ca 4) (rfA (aC 6) 6 fq')) := jj_fr.rf.up (Or.inl List.mem_cons_self)
  exact ⟨hf _ _ (m1 _ (co_ne 0 106 hx hq rfl rfl (by decide))) hx, hsb.keep hf (m1 _ (co_ne 11 106 hB1 hq rfl rfl (by decide))) (m1 _ (cl_ne hA 4 6 (by decide) (by decide) hB0 hq (by decide))), hf _ _ (m1 _ (co_ne 112 106 hb hq rfl rfl (by decide))) hb, hB.sf hA hS hf (fun i hi hp => ⟨m1 _ (hof.1 i hi hp).1, m1 _ (hof.1 i hi hp).2⟩), jj_up_s, hQ, hf _ _ (m1 _ (cl_ne hA 7 6 (by decide) (by decide) hm hq (by decide))) hm, hM.sf hS hf (fun i hi hp => m1 _ (hof.2 i hi hp)), ⟨nx, F, l1, l2, hf _ _ (m1 _ (co_ne 2 106 ho hq rfl rfl (by decide))) ho, fun w hw => hf _ _ (m1 _ (co_ne 216 106 (l4 w hw) hq rfl rfl (by decide))) (l4 w hw), l5, l6⟩, hf _ _ (m1 _ (co_ne 212 106 hs hq rfl rfl (by decide))) hs, hP.sf hS hf⟩
theorem bs_define {tt : List Nat} {f : Nat → Nat → List Nat} {j0 k0 : Nat} {A : (Nat → Option Int32) → Nat} (hA : jA aC) (hC : RC aC h r0 b0 ca cv cp cm nn rh sg mu io bm nq nl lp fb fq fm) (hnq : nq ≤ 6) (h5 : ∀ i, i < 6 → (sg 5 i = 0 ↔ nq ≤ i)) (htt : rh 33 = tt) (hlen : tt.length ≤ 60) (hX : ¬ qq_X 2 tt ∨ QQ 2 tt f j0 k0 A) : jj_Ct l D aC base yn_BS_define yb_BS_define 3 (some .int) 191 70 8851 [.ref (ca 0)] h (fun q h' => q = some (.int (px_dn tt (sg 5))) ∧ jj_fr [ca 0, ca 1, ca 4] h h' ∧ (px_dq tt (sg 5) = none → RC aC h' r0 b0 ca cv cp cm nn (jr_up rh 33 []) sg mu io bm nq nl lp fb fq fm) ∧ (∀ n, px_dq tt (sg 5) = some n → n = nq ∧ nq < 6 ∧ ∃ qo, RC aC h' r0 b0 ca cv cp cm nn (jr_up (jr_up (jr_up rh 33 []) (18 + n) tt) (24 + n) (f 0 0)) (va_up sg 5 (upd (sg 5) n 1)) mu io bm (nq + 1) nl lp fb (va_up fq nq (some qo)) fm)) := by
  have hx := hC.1
  have hsb := hC.2.1
  rw [htt] at hsb
  have hfree := px_free_nq h5 hnq
  have hm : ∀ c : Nat, c ∉ ([] : List Nat) := fun _ => List.not_mem_nil
  have sub1 : ∀ {g g' : jjHp}, jj_fr [ca 1] g g' → jj_fr [ca 0, ca 1, ca 4] g g' := fun hf => hf.mono (fun c hc => by rw [List.mem_singleton.mp hc]; simp)
  have sub0 : ∀ {g g' : jjHp}, jj_fr [] g g' → jj_fr [ca 0, ca 1, ca 4] g g' := fun hf => hf.mono (fun c hc => by cases hc)
  refine jj_start (tb := tb_BS_define) (by decide) tg_BS_define (Nat.le_of_ble_eq_true rfl) ?_
  intro p e s m args below meth cc C
  refine jj_go C 1 rfl ?_
  refine jj_callV C rfl ml_BS_104 wd_249 hx rfl se_BS_BS_taken (bs_taken hx rfl hsb) (rest := []) rfl rfl ⟨Nat.le_of_ble_eq_true rfl, Nat.le_of_ble_eq_true rfl⟩ (Nat.le_of_ble_eq_true rfl) (Nat.le_of_ble_eq_true rfl) (Nat.le_of_ble_eq_true rfl) ?_
  rintro q9 h1 ⟨z, zb, rfl, hz, hzb, hst, hs1, hf1⟩
  have hC1 := hC.taken hA hnq hf1 hs1
  have hx1 := hC1.1
  refine jj_go C 2 rfl ?_
  refine jj_callS C rfl ml_BS_108 wd_546 (bs_nestings hst hlen) (rest := []) rfl rfl ⟨Nat.le_of_ble_eq_true rfl, Nat.le_of_ble_eq_true rfl⟩ (Nat.le_of_ble_eq_true rfl) (Nat.le_of_ble_eq_true rfl) (Nat.le_of_ble_eq_true rfl) ?_
  rintro q9 h9 ⟨rfl, hh9⟩
  rw [hh9]
  refine jj_go C 1 rfl ?_
  refine jj_if C rfl (fun zz => ?_) (fun zz => ?_)
  rotate_left
  · have hgt : 8 < px_hd tt := Nat.not_le.mp (fun q => zz (nI_le (b := 8) q (by decide)))
    have d1 : px_dn tt (sg 5) = -4 := by
      unfold px_dn
      rw [if_pos hgt]
    have d2 : px_dq tt (sg 5) = none := by
      unfold px_dq
      rw [if_pos hgt]
    refine jj_go C 1 rfl ?_
    refine jj_iret C rfl rfl rfl (Nat.le_of_ble_eq_true rfl) (Nat.le_of_ble_eq_true rfl) ⟨by rw [d1], sub1 hf1, (fun _ => hC1), fun n q => by rw [d2] at q; cases q⟩
  have hhb : px_hd tt < 2 ^ 31 := by
    have e1 := List.count_le_length (a := 40) (l := tt)
    have e2 := List.count_le_length (a := 33) (l := tt)
    unfold px_hd
    omega
  have hle : px_hd tt ≤ 8 := (nI_leI (a := px_hd tt) (b := 8) hhb (by decide)).mp zz
  have hct : tt.count 40 ≤ 8 := by
    unfold px_hd at hle
    omega
  -- the reader
  refine jj_new C rfl nw_BS_111 (Nat.le_of_ble_eq_true rfl) (Nat.le_of_ble_eq_true rfl) (fun qr hqr => ?_)
  have hf2 : jj_fr [] h1 (jj_up h1 qr (.inr (5, [.null, .null, .int 0, .int 0, .int 0, .int 0]))) := jj_fr.rf.up (Or.inr hqr)
  have hsx : jj_up h1 qr (.inr (5, [.null, .null, .int 0, .int 0, .int 0, .int 0])) qr = some (.inr (5, [.null, .null, .int 0, .int 0, .int 0, .int 0])) := jj_up_s
  generalize jj_up h1 qr (.inr (5, [.null, .null, .int 0, .int 0, .int 0, .int 0])) = h2 at hf2 hsx ⊢
  have hst2 := hst.keep hf2 (hm _) (hm _)
  refine jj_go C 3 rfl ?_
  refine jj_callI C rfl ml_BS_113 wd_553 rfl (qr_init_n hsx hst2 hlen) (rest := [.ref qr]) rfl rfl ⟨(Nat.le_of_ble_eq_true rfl), (Nat.le_of_ble_eq_true rfl)⟩ (Nat.le_of_ble_eq_true rfl) (Nat.le_of_ble_eq_true rfl) (Nat.le_of_ble_eq_true rfl) ?_
  rintro q9 h3 ⟨rfl, rfl⟩
  have hok : qr_ok aC h2 qr z zb .null tt (fun _ => none) := ⟨hst2, Or.inl ⟨rfl, fun _ _ => rfl⟩, hlen, ⟨_, hsx⟩⟩
  have hw := qr_w_o (h0 := h2) (qr := qr) (tx := z) (bv := .null) (t := tt) (p := 0) (wr := false) (fl := false)
  refine jj_go C 2 rfl ?_
  refine jj_callV C rfl ml_BS_116 wd_583 hw rfl se_QR_QR_any (qr_any (p0 := 0) (wr := false) (fl := false) (n := 61) (O := qx_an (qx_on (fun _ => none) tt.length 61) tt.length tt) hok (qr_one_all hok 61) (Nat.zero_le _) (by omega) (by rw [List.drop_zero])) (rest := []) rfl rfl ⟨Nat.le_of_ble_eq_true rfl, Nat.le_of_ble_eq_true rfl⟩ (Nat.le_of_ble_eq_true rfl) (Nat.le_of_ble_eq_true rfl) (Nat.le_of_ble_eq_true rfl) ?_
  rintro q9 h4 ⟨p', wr', fl', v, rfl, hh4, -, hp', hT⟩
  have ho4 : h4 qr = some (.inr (5, qr_fs z .null tt p' wr' fl')) := by
    rw [hh4]
    exact qr_w_o
  have hf4 : jj_fr [] h1 h4 := by
    rw [hh4]
    unfold qr_w
    exact hf2.up (Or.inr hqr)
  have hC4 := hC1.new hA hf4
  have hst4 := hst.keep hf4 (hm _) (hm _)
  obtain ⟨fz4, hrz4⟩ := hst4.recv
  have bad : ¬ qq_X 2 tt → jj_J p l e (jj_rm 191 70 8851) s m args below meth cc D base 3 (MQ below (jj_Q D base (fun q h' => q = some (.int (px_dn tt (sg 5))) ∧ jj_fr [ca 0, ca 1, ca 4] h h' ∧ (px_dq tt (sg 5) = none → RC aC h' r0 b0 ca cv cp cm nn (jr_up rh 33 []) sg mu io bm nq nl lp fb fq fm) ∧ (∀ n, px_dq tt (sg 5) = some n → n = nq ∧ nq < 6 ∧ ∃ qo, RC aC h' r0 b0 ca cv cp cm nn (jr_up (jr_up (jr_up rh 33 []) (18 + n) tt) (24 + n) (f 0 0)) (va_up sg 5 (upd (sg 5) n 1)) mu io bm (nq + 1) nl lp fb (va_up fq nq (some qo)) fm))) args s 70 8851 (jj_A base)) 50 [(0, .ref (ca 0)), (1, .ref z), (2, .ref qr)] [] h4 3 152 := by
    intro hno
    have hiq : px_iq tt 61 0 0 false = false := by
      rw [Bool.eq_false_iff]
      exact fun q => hno ((px_iq_i hlen).mp q)
    have d1 : px_dn tt (sg 5) = -1 := by
      unfold px_dn
      rw [if_neg (by omega), hiq]
      rfl
    have d2 : px_dq tt (sg 5) = none := by
      unfold px_dq
      rw [if_neg (by omega), hiq]
      rfl
    refine jj_go C 1 rfl ?_
    refine jj_iret C rfl rfl rfl (Nat.le_of_ble_eq_true rfl) (Nat.le_of_ble_eq_true rfl) ⟨by rw [d1], (sub1 hf1).tr (sub0 hf4), (fun _ => hC4), fun n q => by rw [d2] at q; cases q⟩
  refine jj_go C 2 rfl ?_
  refine jj_getf C rfl fl_BS_119 ho4 rfl ?_
  cases hwr : wr' with
  | true =>
    refine jj_if C rfl (fun z => absurd z (by decide)) (fun _ => ?_)
    refine bad ?_
    rintro ⟨f9, j9, k9, A9, h9⟩
    have hr := h9.reads (fun _ => none) (n := 61) (by omega)
    rcases hT with ⟨-, t2⟩ | ⟨-, t1, -⟩
    · rcases t2 with t2 | t2
      · cases t2
      · rw [hr] at t2
        cases t2
    · rw [hwr] at t1
      cases t1
  | false =>
    refine jj_if C rfl (fun _ => ?_) (fun z => absurd rfl z)
    rw [hwr] at ho4
    have hsome : ∃ a, qx_an (qx_on (fun _ => none) tt.length 61) tt.length tt = some (tt.drop p', a) := by
      rcases hT with ⟨t1, -⟩ | ⟨-, -, a, t1, -⟩
      · rw [hwr] at t1
        cases t1
      · exact ⟨a, t1⟩
    obtain ⟨a9, hsome⟩ := hsome
    refine jj_go C 1 rfl ?_
    refine jj_getf C rfl fl_BS_123 ho4 rfl ?_
    refine jj_go C 1 rfl ?_
    refine jj_callV C rfl ml_BS_126 wd_364 hrz4 rfl se_ST_ST_length (kt_ST_length hst4) (rest := [.int (nI p')]) rfl rfl ⟨Nat.le_of_ble_eq_true rfl, Nat.le_of_ble_eq_true rfl⟩ (Nat.le_of_ble_eq_true rfl) (Nat.le_of_ble_eq_true rfl) (Nat.le_of_ble_eq_true rfl) ?_
    rintro q9 h9 ⟨rfl, hh9⟩
    rw [hh9]
    refine jj_if C rfl (fun zl => ?_) (fun zl => ?_)
    rotate_left
    · refine bad ?_
      rintro ⟨f9, j9, k9, A9, h9⟩
      have hr := h9.reads (fun _ => none) (n := 61) (by omega)
      rw [hr] at hsome
      have e := congrArg Prod.fst (Option.some.inj hsome)
      have e : [] = tt.drop p' := e
      have e := congrArg List.length e
      rw [List.length_drop, List.length_nil] at e
      exact zl (nI_le (by omega) (by omega))
    have hpl := (nI_leI (a := tt.length) (b := p') (by omega) (by omega)).mp zl
    rw [List.drop_eq_nil_of_le hpl] at hsome
    have hqx : qq_X 2 tt := qx_query hsome
    have hQ : QQ 2 tt f j0 k0 A := by
      rcases hX with hX | hX
      · exact absurd hqx hX
      · exact hX
    have hiq : px_iq tt 61 0 0 false = true := (px_iq_i hlen).mpr hqx
    have d1 : px_dn tt (sg 5) = (match px_free (sg 5) 6 0 with | some n => nI n | none => -4) := by
      unfold px_dn
      rw [if_neg (by omega), hiq]
      rfl
    have d2 : px_dq tt (sg 5) = px_free (sg 5) 6 0 := by
      unfold px_dq
      rw [if_neg (by omega), hiq]
      rfl
    rw [hfree] at d1 d2
    have hx4 := hC4.1
    refine jj_go C 1 rfl ?_
    refine jj_getf C rfl fl_BS_28 hx4 rfl ?_
    refine jj_go C 1 rfl ?_
    refine jj_if C rfl (fun zq => ?_) (fun zq => ?_)
    rotate_left
    · have hge : ¬ nq < 6 := fun q => zq (nI_lt (b := 6) q (by decide))
      rw [if_neg hge] at d1 d2
      refine jj_go C 1 rfl ?_
      refine jj_iret C rfl rfl rfl (Nat.le_of_ble_eq_true rfl) (Nat.le_of_ble_eq_true rfl) ⟨by rw [d1], (sub1 hf1).tr (sub0 hf4), (fun _ => hC4), fun n q => by rw [d2] at q; cases q⟩
    have hlt : nq < 6 := (nI_ltI (a := nq) (b := 6) (by omega) (by decide)).mp zq
    rw [if_pos hlt] at d1 d2
    refine jj_go C 1 rfl ?_
    refine jj_getf C rfl fl_BS_24 hx4 rfl ?_
    refine jj_go C 1 rfl ?_
    refine jj_getf C rfl fl_BS_28 hx4 rfl ?_
    refine jj_new C rfl nw_BS_22 (Nat.le_of_ble_eq_true rfl) (Nat.le_of_ble_eq_true rfl) (fun qo hqo => ?_)
    have hf5 : jj_fr [] h4 (jj_up h4 qo (.inr (4, [.null]))) := jj_fr.rf.up (Or.inr hqo)
    have hqo5 : jj_up h4 qo (.inr (4, [.null])) qo = some (.inr (4, [.null])) := jj_up_s
    generalize jj_up h4 qo (.inr (4, [.null])) = h5' at hf5 hqo5 ⊢
    refine jj_go C 1 rfl ?_
    refine jj_new C rfl nw_BS_129 (Nat.le_of_ble_eq_true rfl) (Nat.le_of_ble_eq_true rfl) (fun qf hqf => ?_)
    have nqf : qo ≠ qf := jj_ne hqf hqo5
    have hf6 : jj_fr [] h5' (jj_up h5' qf (.inr (6, [.null, .null, .null, .int 0]))) := jj_fr.rf.up (Or.inr hqf)
    have hqf6 : jj_up h5' qf (.inr (6, [.null, .null, .null, .int 0])) qf = some (.inr (6, [.null, .null, .null, .int 0])) := jj_up_s
    generalize jj_up h5' qf (.inr (6, [.null, .null, .null, .int 0])) = h6 at hf6 hqf6 ⊢
    have hf46 : jj_fr [] h4 h6 := hf5.tr hf6
    have hst6 := hst4.keep hf46 (hm _) (hm _)
    have hqo6 := hf6 _ _ (hm _) hqo5
    refine jj_go C 2 rfl ?_
    refine jj_callI C rfl ml_BS_131 wd_622 rfl (qf_init hqf6 hst6) (rest := [.ref qf, .ref qo, .ref qo, .int (nI nq), .ref (ca 4)]) rfl rfl ⟨(Nat.le_of_ble_eq_true rfl), (Nat.le_of_ble_eq_true rfl)⟩ (Nat.le_of_ble_eq_true rfl) (Nat.le_of_ble_eq_true rfl) (Nat.le_of_ble_eq_true rfl) ?_
    rintro q9 h7 ⟨rfl, sb, op, bb, hQF, nsb, nop, nbb, hf7⟩
    refine jj_callV C rfl ml_BS_134 wd_641 hQF.1 rfl se_QF_QF_written (qf_written hQF hlen hQ hct) (rest := [.ref qo, .ref qo, .int (nI nq), .ref (ca 4)]) rfl rfl ⟨Nat.le_of_ble_eq_true rfl, Nat.le_of_ble_eq_true rfl⟩ (Nat.le_of_ble_eq_true rfl) (Nat.le_of_ble_eq_true rfl) (Nat.le_of_ble_eq_true rfl) ?_
    rintro q9 h8 ⟨y, yb, rfl, hy, hyf, hybf, hf8⟩
    -- what was there before the parts is there behind them
    have old : ∀ c e, h5' c = some e → h8 c = some e := by
      intro c e hc
      have c1 : c ≠ qf := jj_ne hqf hc
      have hc6 := hf6 _ _ (hm c) hc
      have hc7 := hf7 _ _ (fun q => c1 (List.mem_singleton.mp q)) hc6
      refine hf8 _ _ (fun q => ?_) hc7
      rcases List.mem_cons.mp q with q | q
      · rw [q, nbb] at hc6; cases hc6
      rcases List.mem_cons.mp q with q | q
      · exact c1 q
      rcases List.mem_cons.mp q with q | q
      · rw [q, nsb] at hc6; cases hc6
      · rw [List.mem_singleton.mp q, nop] at hc6; cases hc6
    have hqo8 := old _ _ hqo5
    refine jj_callI C rfl ml_BS_137 wd_694 rfl (qu_init (tx := y) hqo8) (rest := [.ref qo, .int (nI nq), .ref (ca 4)]) rfl rfl ⟨(Nat.le_of_ble_eq_true rfl), (Nat.le_of_ble_eq_true rfl)⟩ (Nat.le_of_ble_eq_true rfl) (Nat.le_of_ble_eq_true rfl) (Nat.le_of_ble_eq_true rfl) ?_
    rintro q9 h9 ⟨rfl, hqo9, hf9⟩
    have hf49 : jj_fr [] h4 h9 := fun c e _ hc => hf9 _ _ (fun q => jj_ne hqo hc (List.mem_singleton.mp q)) (old _ _ (hf5 _ _ (hm c) hc))
    have hC9 := hC4.new hA hf49
    obtain ⟨fB4, fsB4, hB04, -⟩ := hC4.sb
    have hyy : y ≠ qo ∧ yb ≠ qo := by
      obtain ⟨_, _, _, o1, o2, -⟩ := hy
      exact ⟨(fun q => by rw [q, hqo8] at o1; cases o1), (fun q => by rw [q, hqo8] at o2; cases o2)⟩
    have hy9 := hy.keep hf9 (fun q => hyy.1 (List.mem_singleton.mp q)) (fun q => hyy.2 (List.mem_singleton.mp q))
    have hB06 : h6 b0 = some (.inl (aC 4, bm, .inl fB4)) := hf46 _ _ (hm _) hB04
    have hB05 : h5' b0 = some (.inl (aC 4, bm, .inl fB4)) := hf5 _ _ (hm _) hB04
    have hybb : yb ≠ b0 := by
      intro q
      have hne : b0 ∉ bb :: [qf, sb, op] := by
        intro q
        rcases List.mem_cons.mp q with q | q
        · rw [← q, hB06] at nbb; cases nbb
        rcases List.mem_cons.mp q with q | q
        · exact jj_ne hqf hB05 q
        rcases List.mem_cons.mp q with q | q
        · rw [← q, hB06] at nsb; cases nsb
        · rw [← List.mem_singleton.mp q, hB06] at nop; cases nop
      rcases hybf with hybf | hybf
      · rw [q] at hybf
        exact hne hybf
      · have := hf7 b0 _ (fun q2 => jj_ne hqf hB05 (List.mem_singleton.mp q2)) hB06
        rw [q, this] at hybf
        cases hybf
    refine jj_aast C 6 (n := 6) (f := fq) (j := nq) (v := qo) rfl hC9.2.2.2.2.1 rfl hqo9 rfl rfl hlt (by decide) ?_
    have m4 : ∀ {c e}, h9 c = some e → cK e ≠ 106 → c ∉ [ca 4] := fun hc hk q => co_ne _ 106 hc hC9.2.2.2.2.1 rfl rfl hk (List.mem_singleton.mp q)
    have hfA : jj_fr [ca 4] h9 (jj_up h9 (ca 4) (rfA (aC 6) 6 (va_up fq nq (some qo)))) := jj_fr.rf.up (Or.inl List.mem_cons_self)
    obtain ⟨fB9, fsB9, hB09, -⟩ := hC9.sb
    have hS4 : SF aC h9 r0 b0 [ca 4] := (SF.nil hB09).cons hC9.2.2.2.2.1 (bz_a hA (by decide) (by decide) (by decide))
    have hQall : RQs aC (jj_up h9 (ca 4) (rfA (aC 6) 6 (va_up fq nq (some qo)))) b0 (jr_up (jr_up (jr_up rh 33 []) (18 + nq) tt) (24 + nq) (f 0 0)) (nq + 1) (va_up fq nq (some qo)) := by
      intro i hi
      by_cases hin : i = nq
      · subst hin
        refine ⟨qo, y, yb, by unfold va_up; rw [if_pos rfl], hfA _ _ (m4 hqo9 (show (4 : Nat) ≠ 106 by decide)) hqo9, ?_, hybb⟩
        rw [jr_up_s]
        exact hy9.sf hybb hS4 hfA
      · obtain ⟨qo', tx', txb', e1, e2, e3, e4⟩ := (hC9.2.2.2.2.2.1.sf hS4 hfA) i (by omega)
        refine ⟨qo', tx', txb', by unfold va_up; rw [if_neg hin]; exact e1, e2, ?_, e4⟩
        rw [jr_up_n (by omega), jr_up_n (by omega)]
        exact e3
    have hCA := (hC9.qarr hA (fq' := va_up fq nq (some qo)) (by
      intro i hi
      obtain ⟨qo', tx', txb', e1, e2, e3, e4⟩ := hQall i (by omega)
      rw [jr_up_n (by omega), jr_up_n (by omega)] at e3
      exact ⟨qo', tx', txb', e1, e2, e3, e4⟩))
    refine jj_eq (h' := jj_up h9 (ca 4) (rfA (aC 6) 6 (va_up fq nq (some qo)))) rfl rfl rfl rfl ?_
    generalize jj_up h9 (ca 4) (rfA (aC 6) 6 (va_up fq nq (some qo))) = hA0 at hfA hQall hCA ⊢
    have hxA := hCA.1
    refine jj_go C 2 rfl ?_
    refine jj_getf C rfl fl_BS_28 hxA rfl ?_
    refine jj_go C 2 rfl ?_
    refine jj_top (nI_1 nq) ?_
    refine jj_putf C rfl fl_BS_28 hxA rfl rfl (Nat.le_of_ble_eq_true rfl) ?_
    obtain ⟨fBA, fsBA, hB0A, -⟩ := hCA.sb
    have hS0 : SF aC hA0 r0 b0 [ca 0] := (SF.nil hB0A).cons hxA (bz_o (by decide))
    have hfB : jj_fr [ca 0] hA0 (jj_up hA0 (ca 0) (.inr (0, bs_fs ca (nq + 1) (io 19) lp))) := jj_fr.rf.up (Or.inl List.mem_cons_self)
    have hCr := RC.self (rh' := jr_up (jr_up (jr_up rh 33 []) (18 + nq) tt) (24 + nq) (f 0 0)) (io' := io) (nq' := nq + 1) (lp' := lp) hCA hA ⟨rfl, rfl⟩ (hQall.sf hS0 hfB) ((hCA.2.2.2.2.2.2.2.2.2.2.sf hS0 hfB).cg (by rw [jr_up_n (by omega), jr_up_n (by omega)])) (fun k hk => by rw [jr_up_n (by omega), jr_up_n (by omega)])
    refine jj_eq (h' := jj_up hA0 (ca 0) (.inr (0, bs_fs ca (nq + 1) (io 19) lp))) rfl rfl rfl rfl ?_
    generalize jj_up hA0 (ca 0) (.inr (0, bs_fs ca (nq + 1) (io 19) lp)) = hB at hfB hCr ⊢
    have hCs := hCr.sgc (sg' := va_up sg 5 (upd (sg 5) nq 1)) (io' := io) (fun k hk => by
      unfold va_up
      rw [if_neg (by intro q; rw [q] at hk; revert hk; decide)]) rfl hCr.2.2.2.2.2.2.2.2.1
    refine jj_go C 1 rfl ?_
    refine jj_getf C rfl fl_BS_28 hCs.1 rfl ?_
    refine jj_go C 2 rfl ?_
    refine jj_top (show nI (nq + 1) - 1 = nI nq from pk_sub (a := nq + 1) (b := 1) (by omega)) ?_
    refine jj_iret C rfl rfl rfl (Nat.le_of_ble_eq_true rfl) (Nat.le_of_ble_eq_true rfl) ⟨by rw [d1], ?_, (fun q => by rw [d2] at q; cases q), fun n q => ?_⟩
    · refine ((((sub1 hf1).tr (sub0 hf4)).tr (sub0 hf49)).tr (hfA.mono (fun c hc => by rw [List.mem_singleton.mp hc]; simp))).tr (hfB.mono (fun c hc => by rw [List.mem_singleton.mp hc]; simp))
    · rw [d2] at q
      cases q
      exact ⟨rfl, hlt, qo, hCs⟩
end PJ
