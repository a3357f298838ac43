/-! The class's public methods: check; nestings -/
section PI
variable {l : Launch} {D : va_G} {aC : Nat → ClassId} {base : Nat} {h h' : jjHp} {r0 b0 : Nat} {ca cv cp cm : Nat → Nat} {nn rh rh' : Nat → List Nat} {sg : Nat → Nat → Int32} {mu : Nat → Int64} {io : Nat → Int32} {bm nq nl lp : Nat} {fb fq fm : Nat → Option Nat}
theorem RQs.at (hQ : RQs aC h b0 rh nq fq) (hnq : nq ≤ 6) (h5 : ∀ i, i < 6 → (sg 5 i = 0 ↔ nq ≤ i)) (x : Int32) : (bs_at fq nq x = none ∧ px_at 6 (px_b (sg 5)) x = false) ∨ ∃ i qo tx txb, i < nq ∧ x = nI i ∧ bs_at fq nq x = some qo ∧ h qo = some (.inr (4, [.ref tx])) ∧ kx_ST aC h tx txb (rh (24 + i)) ∧ txb ≠ b0 ∧ px_at 6 (px_b (sg 5)) x = true := by
  by_cases h0 : x < 0
  · exact Or.inl ⟨if_pos h0, px_at_neg h0⟩
  obtain ⟨j, hj, rfl⟩ := nI_of h0
  by_cases hjq : j < nq
  · obtain ⟨qo, tx, txb, a1, a2, a3, a4⟩ := hQ j hjq
    refine Or.inr ⟨j, qo, tx, txb, hjq, rfl, by rw [bs_at_n hjq (by omega), a1], a2, a3, a4, ?_⟩
    rw [px_at_n (by omega) (by decide)]
    have : ¬ sg 5 j = 0 := fun q => by have := (h5 j (by omega)).mp q; omega
    simp [px_b, this]
  · refine Or.inl ⟨?_, ?_⟩
    · unfold bs_at
      rw [if_neg h0, if_pos (nI_le (by omega) hj)]
    · by_cases h6 : j < 6
      · rw [px_at_n h6 (by decide)]
        simp [px_b, (h5 j h6).mpr (by omega)]
      · exact px_at_ge (nI_le (by omega) hj)
theorem bs_check_f {x z0 : Int32} (hC : RC aC h r0 b0 ca cv cp cm nn rh sg mu io bm nq nl lp fb fq fm) (hnq : nq ≤ 6) (h5 : ∀ i, i < 6 → (sg 5 i = 0 ↔ nq ≤ i)) (hno : (px_at 6 (px_b (sg 5)) x && px_at 12 (px_b (sg 2)) z0) = false) : jj_Ct l D aC base yn_BS_check yb_BS_check 5 (some .int) 191 1 6 [.ref (ca 0), .int x, .int z0] h (fun q h' => q = some (.int (-2)) ∧ h' = h) := by
  obtain ⟨hx, -, hb, hB, hq, hQ, -⟩ := hC
  refine jj_start (tb := tb_BS_check) (by decide) tg_BS_check (Nat.le_of_ble_eq_true rfl) ?_
  intro p e s m args below meth cc C
  refine jj_go C 2 rfl ?_
  refine jj_callV C rfl ml_BS_138 wd_708 hx rfl se_BS_BS_queryAt (bs_queryAt (x := x) hx hq hnq) (rest := []) rfl rfl ⟨Nat.le_of_ble_eq_true rfl, Nat.le_of_ble_eq_true rfl⟩ (Nat.le_of_ble_eq_true rfl) (Nat.le_of_ble_eq_true rfl) (Nat.le_of_ble_eq_true rfl) ?_
  rintro q9 h9 ⟨rfl, hh9⟩
  rw [hh9]
  rcases hQ.at (sg := sg) hnq h5 x with ⟨q1, q2⟩ | ⟨i, qo, tx, txb, hi, hxi, q1, -, -, -, q2⟩
  · rw [q1]
    refine jj_go C 3 rfl ?_
    refine jj_callV C rfl ml_BS_89 wd_528 hx rfl se_BS_BS_beanAt (bs_beanAt (x := z0) hx hb) (rest := []) rfl rfl ⟨Nat.le_of_ble_eq_true rfl, Nat.le_of_ble_eq_true rfl⟩ (Nat.le_of_ble_eq_true rfl) (Nat.le_of_ble_eq_true rfl) (Nat.le_of_ble_eq_true rfl) ?_
    rintro q9 h9 ⟨rfl, hh9⟩
    rw [hh9]
    rcases va_rf_or (bs_at fb 12 z0) with e | ⟨a, e⟩
    · rw [e]
      refine jj_go C 4 rfl ?_
      exact jj_iret C rfl rfl rfl (Nat.le_of_ble_eq_true rfl) (Nat.le_of_ble_eq_true rfl) ⟨rfl, rfl⟩
    · rw [e]
      refine jj_go C 4 rfl ?_
      exact jj_iret C rfl rfl rfl (Nat.le_of_ble_eq_true rfl) (Nat.le_of_ble_eq_true rfl) ⟨rfl, rfl⟩
  · rw [q2, Bool.true_and] at hno
    rw [q1]
    refine jj_go C 3 rfl ?_
    refine jj_callV C rfl ml_BS_89 wd_528 hx rfl se_BS_BS_beanAt (bs_beanAt (x := z0) hx hb) (rest := []) rfl rfl ⟨Nat.le_of_ble_eq_true rfl, Nat.le_of_ble_eq_true rfl⟩ (Nat.le_of_ble_eq_true rfl) (Nat.le_of_ble_eq_true rfl) (Nat.le_of_ble_eq_true rfl) ?_
    rintro q9 h9 ⟨rfl, hh9⟩
    rw [hh9]
    rcases hB.at z0 with ⟨p1, p2⟩ | ⟨i2, be, hi2, hxi2, hp, p1, -, p2⟩
    · rw [p1]
      refine jj_go C 6 rfl ?_
      exact jj_iret C rfl rfl rfl (Nat.le_of_ble_eq_true rfl) (Nat.le_of_ble_eq_true rfl) ⟨rfl, rfl⟩
    · rw [p2] at hno
      cases hno
/-- a query's form, read for a bean -/
theorem qr_answer {E : Nat → Option Int32} {u : List Nat} {x tx txb j k : Nat} {bv : Value} {f : Nat → Nat → List Nat} {A : (Nat → Option Int32) → Nat} (hQ : QQ 2 u f j k A) (hl : u.length ≤ 60) (hq : qr_ok aC h x tx txb bv u E) : jj_Ct l D aC base yn_QR_any yb_QR_any 4 (some .int) 190 0 0 [.ref x] (qr_w h x tx bv u 0 false false) (fun q h' => q = some (.int (nI (A E))) ∧ ∃ p' wr' fl', h' = qr_w h x tx bv u p' wr' fl') := by
  have hr := hQ.reads E (n := 61) (by omega)
  have hc := qr_any (l := l) (D := D) (base := base) (p0 := 0) (wr := false) (fl := false) (n := 61) hq (qr_one_all hq 61) (Nat.zero_le _) (by omega) (show qx_an (qx_on E u.length 61) u.length (u.drop 0) = some ([], A E) by rw [List.drop_zero]; exact hr)
  refine jj_Ct_post hc ?_
  rintro q h' ⟨p', wr', fl', v, rfl, rfl, -, -, hT⟩
  rcases hT with ⟨-, t2⟩ | ⟨-, -, a, t1, t2, -⟩
  · rcases t2 with t2 | t2 <;> cases t2
  · have e := congrArg Prod.snd (Option.some.inj t1)
    have e : A E = a := e
    exact ⟨by rw [t2, e], p', wr', fl', rfl⟩
theorem bs_check_t {n i j0 k0 : Nat} {f : Nat → Nat → List Nat} {A : (Nat → Option Int32) → Nat} (hA : jA aC) (hC : RC aC h r0 b0 ca cv cp cm nn rh sg mu io bm nq nl lp fb fq fm) (hnq : nq ≤ 6) (hn : n < nq) (hi : i < 12) (hp : ¬ sg 2 i = 0) (hQ : QQ 2 (rh (18 + n)) f j0 k0 A) (hfo : rh (24 + n) = f 0 0) (hl : (rh (24 + n)).length ≤ 60) : jj_Ct l D aC base yn_BS_check yb_BS_check 5 (some .int) 191 1 6 [.ref (ca 0), .int (nI n), .int (nI i)] h (fun q h' => q = some (.int (nI (A (rr_E sg i)))) ∧ RC aC h' r0 b0 ca cv cp cm nn rh sg mu io bm nq nl lp fb fq fm ∧ jj_fr [] h h') := by
  have hC0 := hC
  obtain ⟨hx, -, hb, hB, hq, hQs, -⟩ := hC
  obtain ⟨qo, tx, txb, a1, a2, a3, a4⟩ := hQs n hn
  obtain ⟨be, hfb, pt, V, B, b1, b2, b3, b4, b5⟩ : ∃ be, fb i = some be ∧ RB1 aC h b0 r0 cv cp nn sg i be := by
    rcases hB i hi with ⟨q, -⟩ | ⟨-, be, q1, q2⟩
    · exact absurd q hp
    · exact ⟨be, q1, q2⟩
  rw [hfo] at a3 hl
  obtain ⟨f', j', k', hQ', -⟩ := hQ.form 2 (Nat.le_refl _) 0 0 ⟨fun q => (by cases q), fun q => (by cases q)⟩
  refine jj_start (tb := tb_BS_check) (by decide) tg_BS_check (Nat.le_of_ble_eq_true rfl) ?_
  intro p e s m args below meth cc C
  refine jj_go C 2 rfl ?_
  refine jj_callV C rfl ml_BS_138 wd_708 hx rfl se_BS_BS_queryAt (bs_queryAt (x := nI n) hx hq hnq) (rest := []) rfl rfl ⟨Nat.le_of_ble_eq_true rfl, Nat.le_of_ble_eq_true rfl⟩ (Nat.le_of_ble_eq_true rfl) (Nat.le_of_ble_eq_true rfl) (Nat.le_of_ble_eq_true rfl) ?_
  rintro q9 h9 ⟨rfl, hh9⟩
  rw [hh9]
  rw [bs_at_n hn (by omega), a1]
  refine jj_go C 3 rfl ?_
  refine jj_callV C rfl ml_BS_89 wd_528 hx rfl se_BS_BS_beanAt (bs_beanAt (x := nI i) hx hb) (rest := []) rfl rfl ⟨Nat.le_of_ble_eq_true rfl, Nat.le_of_ble_eq_true rfl⟩ (Nat.le_of_ble_eq_true rfl) (Nat.le_of_ble_eq_true rfl) (Nat.le_of_ble_eq_true rfl) ?_
  rintro q9 h9 ⟨rfl, hh9⟩
  rw [hh9]
  rw [bs_at_n hi (by decide), hfb]
  refine jj_go C 5 rfl ?_
  refine jj_new C rfl nw_BS_111 (Nat.le_of_ble_eq_true rfl) (Nat.le_of_ble_eq_true rfl) (fun x hx0 => ?_)
  have hf1 : jj_fr [] h (jj_up h x (.inr (5, [.null, .null, .int 0, .int 0, .int 0, .int 0]))) := jj_fr.rf.up (Or.inr hx0)
  have hsx : jj_up h x (.inr (5, [.null, .null, .int 0, .int 0, .int 0, .int 0])) x = some (.inr (5, [.null, .null, .int 0, .int 0, .int 0, .int 0])) := jj_up_s
  have hm : ∀ c : Nat, c ∉ ([] : List Nat) := fun _ => List.not_mem_nil
  generalize jj_up h x (.inr (5, [.null, .null, .int 0, .int 0, .int 0, .int 0])) = h1 at hf1 hsx ⊢
  have a31 := a3.keep hf1 (hm _) (hm _)
  refine jj_go C 2 rfl ?_
  refine jj_getf C rfl fl_BS_142 (hf1 _ _ (hm _) a2) rfl ?_
  refine jj_go C 1 rfl ?_
  refine jj_callI C rfl ml_BS_113 wd_553 rfl (qr_init_r (be := be) hsx a31 hl) (rest := [.ref x]) rfl rfl ⟨(Nat.le_of_ble_eq_true rfl), (Nat.le_of_ble_eq_true rfl)⟩ (Nat.le_of_ble_eq_true rfl) (Nat.le_of_ble_eq_true rfl) (Nat.le_of_ble_eq_true rfl) ?_
  rintro q9 h2 ⟨rfl, rfl⟩
  have hok : qr_ok aC h1 x tx txb (.ref be) (f 0 0) (rr_E sg i) := ⟨a31, Or.inr ⟨be, cv i, cp i, .ref pt, V, B, rfl, hf1 _ _ (hm _) b1, hf1 _ _ (hm _) b3, hf1 _ _ (hm _) b4, fun a ha => by
    obtain ⟨v1, v2⟩ := b5 a ha
    unfold rr_E
    rw [v1, v2]⟩, hl, ⟨_, hsx⟩⟩
  have hw := qr_w_o (h0 := h1) (qr := x) (tx := tx) (bv := .ref be) (t := f 0 0) (p := 0) (wr := false) (fl := false)
  refine jj_callV C rfl ml_BS_116 wd_583 hw rfl se_QR_QR_any (qr_answer hQ' hl hok) (rest := []) rfl rfl ⟨Nat.le_of_ble_eq_true rfl, Nat.le_of_ble_eq_true rfl⟩ (Nat.le_of_ble_eq_true rfl) (Nat.le_of_ble_eq_true rfl) (Nat.le_of_ble_eq_true rfl) ?_
  rintro q9 h3 ⟨rfl, p', wr', fl', hh3⟩
  have hf3 : jj_fr [] h h3 := by
    rw [hh3]
    unfold qr_w
    exact hf1.up (Or.inr hx0)
  exact jj_iret C rfl rfl rfl (Nat.le_of_ble_eq_true rfl) (Nat.le_of_ble_eq_true rfl) ⟨rfl, hC0.new hA hf3, hf3⟩
theorem bs_nestings {tx txb : Nat} {t : List Nat} (hs : kx_ST aC h tx txb t) (hl : t.length ≤ 60) : jj_Ct l D aC base yn_BS_nestings yb_BS_nestings 3 (some .int) 4 0 0 [.ref tx] h (fun q h' => q = some (.int (nI (px_hd t))) ∧ h' = h) := by
  obtain ⟨fs, hr⟩ := hs.recv
  refine jj_start (tb := tb_BS_nestings) (by decide) tg_BS_nestings (Nat.le_of_ble_eq_true rfl) ?_
  intro p e s m args below meth cc C
  have loop : ∀ (l1 : List Nat) (k n1 : Nat), t.drop k = l1 → k + l1.length = t.length → n1 + px_hd l1 = px_hd t → n1 ≤ k → jj_J p l e (jj_rm 4 0 0) s m args below meth cc D base 3 (MQ below (jj_Q D base (fun q h' => q = some (.int (nI (px_hd t))) ∧ h' = h)) args s 0 0 (jj_A base)) 4 [(0, .ref tx), (1, .int (nI n1)), (2, .int (nI k))] [] h 0 0 := by
    intro l1
    induction l1 with
    | nil =>
      intro k n1 e1 hk hn hk1
      have hn : n1 = px_hd t := hn
      have hk : k = t.length := hk
      subst hn
      refine jj_go C 2 rfl ?_
      refine jj_callV C rfl ml_BS_126 wd_364 hr rfl se_ST_ST_length (kt_ST_length hs) (rest := [.int (nI k)]) rfl rfl ⟨Nat.le_of_ble_eq_true rfl, Nat.le_of_ble_eq_true rfl⟩ (Nat.le_of_ble_eq_true rfl) (Nat.le_of_ble_eq_true rfl) (Nat.le_of_ble_eq_true rfl) ?_
      rintro q9 h9 ⟨rfl, hh9⟩
      rw [hh9]
      refine jj_if C rfl (fun _ => ?_) (fun z => absurd (nI_le (by omega) (by omega)) z)
      refine jj_go C 1 rfl ?_
      exact jj_iret C rfl rfl rfl (Nat.le_of_ble_eq_true rfl) (Nat.le_of_ble_eq_true rfl) ⟨rfl, rfl⟩
    | cons c l1 ih =>
      intro k n1 e1 hk hn hk1
      obtain ⟨x1, x2, x3⟩ := qd_cons e1
      have hc := hs.lt k
      rw [x1] at hc
      have hk' : k + 1 + l1.length = t.length := by
        have : (c :: l1).length = l1.length + 1 := rfl
        omega
      rw [px_hd_s] at hn
      refine jj_go C 2 rfl ?_
      refine jj_callV C rfl ml_BS_126 wd_364 hr rfl se_ST_ST_length (kt_ST_length hs) (rest := [.int (nI k)]) rfl rfl ⟨Nat.le_of_ble_eq_true rfl, Nat.le_of_ble_eq_true rfl⟩ (Nat.le_of_ble_eq_true rfl) (Nat.le_of_ble_eq_true rfl) (Nat.le_of_ble_eq_true rfl) ?_
      rintro q9 h9 ⟨rfl, hh9⟩
      rw [hh9]
      refine jj_if C rfl (fun z => absurd z (nI_ge x3 (by omega))) (fun _ => ?_)
      refine jj_go C 2 rfl ?_
      refine jj_callV C rfl ml_BS_163 wd_372 hr rfl se_ST_ST_charAt (kt_ST_charAt (i := k) hs x3 (by omega)) (rest := []) rfl rfl ⟨Nat.le_of_ble_eq_true rfl, Nat.le_of_ble_eq_true rfl⟩ (Nat.le_of_ble_eq_true rfl) (Nat.le_of_ble_eq_true rfl) (Nat.le_of_ble_eq_true rfl) ?_
      rintro q9 h9 ⟨rfl, hh9⟩
      rw [hh9]
      rw [x1]
      refine jj_go C 1 rfl ?_
      refine jj_if C rfl (fun z => ?_) (fun z => ?_)
      · have g := (nI_eq (a := c) (b := 40) (by omega) (by decide)).mp z
        rw [if_pos (Or.inl g)] at hn
        refine jj_go C 3 rfl ?_
        rw [nI_1, nI_1]
        exact ih (k + 1) (n1 + 1) x2 hk' (by omega) (by omega)
      · have g : ¬ c = 40 := fun q => z (by rw [q]; rfl)
        refine jj_go C 2 rfl ?_
        refine jj_callV C rfl ml_BS_163 wd_372 hr rfl se_ST_ST_charAt (kt_ST_charAt (i := k) hs x3 (by omega)) (rest := []) rfl rfl ⟨Nat.le_of_ble_eq_true rfl, Nat.le_of_ble_eq_true rfl⟩ (Nat.le_of_ble_eq_true rfl) (Nat.le_of_ble_eq_true rfl) (Nat.le_of_ble_eq_true rfl) ?_
        rintro q9 h9 ⟨rfl, hh9⟩
        rw [hh9]
        rw [x1]
        refine jj_go C 1 rfl ?_
        refine jj_if C rfl (fun z2 => ?_) (fun z2 => ?_)
        · have g2 := (nI_eq (a := c) (b := 33) (by omega) (by decide)).mp z2
          rw [if_pos (Or.inr g2)] at hn
          refine jj_go C 3 rfl ?_
          rw [nI_1, nI_1]
          exact ih (k + 1) (n1 + 1) x2 hk' (by omega) (by omega)
        · have g2 : ¬ c = 33 := fun q => z2 (by rw [q]; rfl)
          rw [if_neg (by omega)] at hn
          refine jj_go C 2 rfl ?_
          rw [nI_1]
          exact ih (k + 1) n1 x2 hk' (by omega) (by omega)
  refine jj_go C 4 rfl ?_
  exact loop t 0 0 List.drop_zero (by omega) (by omega) (Nat.le_refl _)
end PI
