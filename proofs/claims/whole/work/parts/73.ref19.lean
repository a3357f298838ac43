/-! The reference: check, define, select -/
/-- how many ( and ! -/
def px_hd (t : List Nat) : Nat := t.count 40 + t.count 33
theorem px_hd_s {c : Nat} {l : List Nat} : px_hd (c :: l) = px_hd l + (if c = 40 ∨ c = 33 then 1 else 0) := by
  unfold px_hd
  by_cases h1 : c = 40
  · rw [h1, List.count_cons_self, List.count_cons_of_ne (by decide), if_pos (Or.inl rfl)]
    omega
  · by_cases h2 : c = 33
    · rw [h2, List.count_cons_self, List.count_cons_of_ne (by decide), if_pos (Or.inr rfl)]
      omega
    · rw [List.count_cons_of_ne h1, List.count_cons_of_ne h2, if_neg (by omega)]
      omega
def px_dq (t : List Nat) (f : Nat → Int32) : Option Nat := if 8 < px_hd t then none else if px_iq t 61 0 0 false = true then px_free f 6 0 else none
def px_dn (t : List Nat) (f : Nat → Int32) : Int32 := if 8 < px_hd t then -4 else if px_iq t 61 0 0 false = true then (match px_free f 6 0 with | some n => nI n | none => -4) else -1
section MDF
variable {l : Launch} {D : va_G} {aC : Nat → ClassId} {base : Nat} {h : jjHp} {y : Nat} {ad : Nat → Nat} {rh : Nat → List Nat} {sg : Nat → Nat → Int32} {mu : Nat → Int64} {io : Nat → Int32}
theorem sc.qm {rh' : Nat → List Nat} {sg' : Nat → Nat → Int32} {io' io2 : Nat → Int32} (s : sc rh sg io rh' sg' io') (F1 F2 F3 F4 : Nat → Int32) (hi : ∀ k, k ≠ 27 → k ≠ 28 → io2 k = io' k) : sc rh sg io rh' (qm_g sg' F1 F2 F3 F4) io2 := by
  refine ⟨s.1, fun k h1 h2 => ?_, fun k h1 h2 h3 => (hi k h2 h3).trans (s.2.2 k h1 h2 h3)⟩
  rw [← s.2.1 k h1 h2]
  unfold qm_g va_up
  rw [if_neg (by omega), if_neg (by omega), if_neg (by omega), if_neg (by omega)]
theorem rr_check_f {x z0 : Int32} (hR : RR aC h y ad rh sg mu io) (hno : (px_at 6 (px_b (sg 5)) x && px_at 12 (px_b (sg 2)) z0) = false) : jj_Ct l D aC base yn_MO_check yb_MO_check 3 (some .int) 7 0 0 [.ref y, .int x, .int z0] h (fun q h' => q = some (.int (-2)) ∧ h' = h) := by
  refine jj_start (tb := tb_MO_check) (by decide) tg_MO_check (Nat.le_of_ble_eq_true rfl) ?_
  intro p e s m args below meth cc C
  refine jj_go C 2 rfl ?_
  refine jj_callV C rfl ml_MO_244 wd_1116 hR.oy rfl se_MO_MO_isAsked (rr_isAsked (x := x) hR) (rest := []) rfl rfl ⟨Nat.le_of_ble_eq_true rfl, Nat.le_of_ble_eq_true rfl⟩ (Nat.le_of_ble_eq_true rfl) (Nat.le_of_ble_eq_true rfl) (Nat.le_of_ble_eq_true rfl) ?_
  rintro q9 h9 ⟨rfl, hh9⟩
  rw [hh9]
  cases ha : px_at 6 (px_b (sg 5)) x with
  | false =>
    refine jj_if C rfl (fun _ => ?_) (fun z => absurd rfl z)
    refine jj_go C 1 rfl ?_
    exact jj_iret C rfl rfl rfl (Nat.le_of_ble_eq_true rfl) (Nat.le_of_ble_eq_true rfl) ⟨rfl, rfl⟩
  | true =>
    rw [ha, Bool.true_and] at hno
    refine jj_if C rfl (fun z => absurd z (by decide)) (fun _ => ?_)
    refine jj_go C 2 rfl ?_
    refine jj_callV C rfl ml_MO_171 wd_1050 hR.oy rfl se_MO_MO_isBean (rr_isBean (x := z0) hR) (rest := []) rfl rfl ⟨Nat.le_of_ble_eq_true rfl, Nat.le_of_ble_eq_true rfl⟩ (Nat.le_of_ble_eq_true rfl) (Nat.le_of_ble_eq_true rfl) (Nat.le_of_ble_eq_true rfl) ?_
    rintro q9 h9 ⟨rfl, hh9⟩
    rw [hh9]
    rw [hno]
    refine jj_if C rfl (fun _ => ?_) (fun z => absurd rfl z)
    refine jj_go C 1 rfl ?_
    exact jj_iret C rfl rfl rfl (Nat.le_of_ble_eq_true rfl) (Nat.le_of_ble_eq_true rfl) ⟨rfl, rfl⟩
theorem rr_check_t {n bn j0 k0 : Nat} {f : Nat → Nat → List Nat} {A : (Nat → Option Int32) → Nat} (hR : RR aC h y ad rh sg mu io) (hn : n < 6) (hna : ¬ sg 5 n = 0) (hb : bn < 12) (hbn : ¬ sg 2 bn = 0) (hQ : QQ 2 (rh (18 + n)) f j0 k0 A) (hct : (rh (18 + n)).count 40 < 12) : jj_Ct l D aC base yn_MO_check yb_MO_check 3 (some .int) 7 0 0 [.ref y, .int (nI n), .int (nI bn)] h (fun q h' => q = some (.int (nI (A (rr_E sg bn)))) ∧ jj_fr (rr_S y ad) h h' ∧ RX aC h' y ad rh sg mu io) := by
  have ha : px_at 6 (px_b (sg 5)) (nI n) = true := by
    rw [px_at_n hn (by decide)]
    simp [px_b, hna]
  have hbb : px_at 12 (px_b (sg 2)) (nI bn) = true := by
    rw [px_at_n hb (by decide)]
    simp [px_b, hbn]
  refine jj_start (tb := tb_MO_check) (by decide) tg_MO_check (Nat.le_of_ble_eq_true rfl) ?_
  intro p e s m args below meth cc C
  refine jj_go C 2 rfl ?_
  refine jj_callV C rfl ml_MO_244 wd_1116 hR.oy rfl se_MO_MO_isAsked (rr_isAsked (x := nI n) hR) (rest := []) rfl rfl ⟨Nat.le_of_ble_eq_true rfl, Nat.le_of_ble_eq_true rfl⟩ (Nat.le_of_ble_eq_true rfl) (Nat.le_of_ble_eq_true rfl) (Nat.le_of_ble_eq_true rfl) ?_
  rintro q9 h9 ⟨rfl, hh9⟩
  rw [hh9]
  rw [ha]
  refine jj_if C rfl (fun z => absurd z (by decide)) (fun _ => ?_)
  refine jj_go C 2 rfl ?_
  refine jj_callV C rfl ml_MO_171 wd_1050 hR.oy rfl se_MO_MO_isBean (rr_isBean (x := nI bn) hR) (rest := []) rfl rfl ⟨Nat.le_of_ble_eq_true rfl, Nat.le_of_ble_eq_true rfl⟩ (Nat.le_of_ble_eq_true rfl) (Nat.le_of_ble_eq_true rfl) (Nat.le_of_ble_eq_true rfl) ?_
  rintro q9 h9 ⟨rfl, hh9⟩
  rw [hh9]
  rw [hbb]
  refine jj_if C rfl (fun z => absurd z (by decide)) (fun _ => ?_)
  refine jj_go C 4 rfl ?_
  refine jj_top (show (18 : Int32) + nI n = nI (18 + n) from nI_add 18 n) ?_
  refine jj_go C 1 rfl ?_
  refine jj_callV C rfl ml_MO_247 wd_1120 hR.oy rfl se_MO_MO_truth (rr_truth (r := 18 + n) (bn := bn) hR (by omega) hb hbn hQ hct rfl) (rest := []) rfl rfl ⟨Nat.le_of_ble_eq_true rfl, Nat.le_of_ble_eq_true rfl⟩ (Nat.le_of_ble_eq_true rfl) (Nat.le_of_ble_eq_true rfl) (Nat.le_of_ble_eq_true rfl) ?_
  rintro q9 h1 ⟨rfl, ⟨F1, F2, F3, F4, io1, hR1, hi1⟩, hf1⟩
  refine jj_go C 1 rfl ?_
  exact jj_iret C rfl rfl rfl (Nat.le_of_ble_eq_true rfl) (Nat.le_of_ble_eq_true rfl) ⟨rfl, hf1, ⟨_, _, _, hR1, sc.rf.qm F1 F2 F3 F4 hi1⟩⟩
theorem rr_define {j0 k0 : Nat} {tt : List Nat} {f : Nat → Nat → List Nat} {A : (Nat → Option Int32) → Nat} (hR : RR aC h y ad rh sg mu io) (htt : rh 33 = tt) (hX : ¬ qq_X 2 tt ∨ QQ 2 tt f j0 k0 A) : jj_Ct l D aC base yn_MO_define yb_MO_define 3 (some .int) 5 0 0 [.ref y] h (fun q h' => q = some (.int (px_dn tt (sg 5))) ∧ jj_fr (rr_S y ad) h h' ∧ (px_dq tt (sg 5) = none → RX aC h' y ad (jr_up rh 33 []) sg mu io) ∧ (∀ n, px_dq tt (sg 5) = some n → RX aC h' y ad (jr_up (jr_up (jr_up rh 33 []) (18 + n) tt) (24 + n) (f 0 0)) (va_up sg 5 (upd (sg 5) n 1)) mu io)) := by
  obtain ⟨hlen, hch⟩ := hR.len (r := 33) (by decide)
  refine jj_start (tb := tb_MO_define) (by decide) tg_MO_define (Nat.le_of_ble_eq_true rfl) ?_
  intro p e s m args below meth cc C
  refine jj_go C 1 rfl ?_
  refine jj_callV C rfl ml_MO_122 wd_980 hR.oy rfl se_MO_MO_take (mo_take hR.oT) (rest := []) rfl rfl ⟨Nat.le_of_ble_eq_true rfl, Nat.le_of_ble_eq_true rfl⟩ (Nat.le_of_ble_eq_true rfl) (Nat.le_of_ble_eq_true rfl) (Nat.le_of_ble_eq_true rfl) ?_
  rintro q9 h1 ⟨rfl, hT1, hf1⟩
  have hR1 := hR.text hT1 hf1
  have hf1 : jj_fr (rr_S y ad) h h1 := rr_fr01 hf1
  have e31 : jr_up (jr_up rh 31 (rh 33)) 33 [] 31 = rh 33 := by rw [jr_up_n (by decide), jr_up_s]
  have hs1 : sc (jr_up rh 33 []) sg io (jr_up (jr_up rh 31 (rh 33)) 33 []) sg io := (sc.rf.rs (Or.inl rfl) _).up 33 []
  have hrh1 : ∀ k, k ≠ 31 → k ≠ 33 → jr_up (jr_up rh 31 (rh 33)) 33 [] k = rh k := fun k a b => by rw [jr_up_n b, jr_up_n a]
  generalize jr_up (jr_up rh 31 (rh 33)) 33 [] = rh1 at hR1 e31 hs1 hrh1
  rw [htt] at hlen hch e31
  obtain ⟨hy, f0, f1, hne, L, S, g0, g1, hRR⟩ := hR1.oT
  have r1 := (hRR 31 (by decide)).1
  rw [e31] at r1
  -- behind the count
  have cont : ¬ 8 < px_hd tt → ∀ v : Int32, jj_J p l e (jj_rm 5 0 0) s m args below meth cc D base 3 (MQ below (jj_Q D base (fun q h' => q = some (.int (px_dn tt (sg 5))) ∧ jj_fr (rr_S y ad) h h' ∧ (px_dq tt (sg 5) = none → RX aC h' y ad (jr_up rh 33 []) sg mu io) ∧ (∀ n, px_dq tt (sg 5) = some n → RX aC h' y ad (jr_up (jr_up (jr_up rh 33 []) (18 + n) tt) (24 + n) (f 0 0)) (va_up sg 5 (upd (sg 5) n 1)) mu io))) args s 0 0 (jj_A base)) 61 [(0, .ref y), (1, .int (nI (px_hd tt))), (2, .int v)] [] h1 0 0 := by
    intro hhd v
    refine jj_go C 1 rfl ?_
    refine jj_callV C rfl ml_MO_210 wd_1066 hy rfl se_MO_MO_isQuery (rr_isQuery (G := px_iq tt 61 0 0 false) hR1 (by rw [e31])) (rest := []) rfl rfl ⟨Nat.le_of_ble_eq_true rfl, Nat.le_of_ble_eq_true rfl⟩ (Nat.le_of_ble_eq_true rfl) (Nat.le_of_ble_eq_true rfl) (Nat.le_of_ble_eq_true rfl) ?_
    rintro q9 h9 ⟨rfl, hh9⟩
    rw [hh9]
    cases hq : px_iq tt 61 0 0 false with
    | false =>
      have d1 : px_dn tt (sg 5) = -1 := by
        unfold px_dn
        rw [if_neg hhd, hq]
        rfl
      have d2 : px_dq tt (sg 5) = none := by
        unfold px_dq
        rw [if_neg hhd, hq]
        rfl
      refine jj_if C rfl (fun _ => ?_) (fun z => absurd rfl z)
      refine jj_go C 1 rfl ?_
      exact jj_iret C rfl rfl rfl (Nat.le_of_ble_eq_true rfl) (Nat.le_of_ble_eq_true rfl) ⟨by rw [d1], hf1, (fun _ => ⟨_, _, _, hR1, hs1⟩), fun n q => by rw [d2] at q; cases q⟩
    | true =>
      have hQ : QQ 2 tt f j0 k0 A := by
        rcases hX with hX | hX
        · exact absurd ((px_iq_i hlen).mp hq) hX
        · exact hX
      have d1 : px_dn tt (sg 5) = (match px_free (sg 5) 6 0 with | some n => nI n | none => -4) := by
        unfold px_dn
        rw [if_neg hhd, hq]
        rfl
      have d2 : px_dq tt (sg 5) = px_free (sg 5) 6 0 := by
        unfold px_dq
        rw [if_neg hhd, hq]
        rfl
      refine jj_if C rfl (fun z => absurd z (by decide)) (fun _ => ?_)
      have free : ∀ (k j : Nat) (v : Int32), v = nI j → j + k = 6 → px_free (sg 5) k j = px_free (sg 5) 6 0 → jj_J p l e (jj_rm 5 0 0) s m args below meth cc D base 3 (MQ below (jj_Q D base (fun q h' => q = some (.int (px_dn tt (sg 5))) ∧ jj_fr (rr_S y ad) h h' ∧ (px_dq tt (sg 5) = none → RX aC h' y ad (jr_up rh 33 []) sg mu io) ∧ (∀ n, px_dq tt (sg 5) = some n → RX aC h' y ad (jr_up (jr_up (jr_up rh 33 []) (18 + n) tt) (24 + n) (f 0 0)) (va_up sg 5 (upd (sg 5) n 1)) mu io))) args s 0 0 (jj_A base)) 72 [(0, .ref y), (1, .int (nI (px_hd tt))), (2, .int v)] [] h1 0 0 := by
        intro k
        induction k with
        | zero =>
          intro j v hv hk hg
          have hg : none = px_free (sg 5) 6 0 := hg
          rw [← hg] at d1 d2
          have hj : j = 6 := by omega
          subst hj
          refine jj_go C 2 rfl ?_
          refine jj_if C rfl (fun _ => ?_) (fun z => absurd (by rw [hv]; decide) z)
          refine jj_go C 2 rfl ?_
          refine jj_if C rfl (fun z => ?_) (fun z => absurd (by rw [hv]; rfl) z)
          refine jj_go C 1 rfl ?_
          exact jj_iret C rfl rfl rfl (Nat.le_of_ble_eq_true rfl) (Nat.le_of_ble_eq_true rfl) ⟨by rw [d1], hf1, (fun _ => ⟨_, _, _, hR1, hs1⟩), fun n q => by rw [d2] at q; cases q⟩
        | succ k ih =>
          intro j v hv hk hg
          have hlt : j < 6 := by omega
          have hg : (if sg 5 j = 0 then some j else px_free (sg 5) k (j + 1)) = px_free (sg 5) 6 0 := hg
          refine jj_go C 2 rfl ?_
          refine jj_if C rfl (fun z => absurd z (by rw [hv]; exact nI_ge (b := 6) hlt (by decide))) (fun _ => ?_)
          refine jj_go C 1 rfl ?_
          refine jj_getf C rfl fl_MO_27 hy rfl ?_
          refine jj_go C 1 rfl ?_
          refine jj_zald C (n := 6) (f := sg 5) rfl (hR1.oc (k := 5) (by decide) (by decide) (by decide)) hv hlt (by decide) ?_
          refine jj_if C rfl (fun z => ?_) (fun z => ?_)
          · rw [if_pos z] at hg
            rw [← hg] at d1 d2
            refine jj_go C 2 rfl ?_
            refine jj_if C rfl (fun z => ?_) (fun _ => ?_)
            · rw [hv] at z
              have := (nI_eq (a := j) (b := 6) (by omega) (by decide)).mp z
              omega
            subst hv
            have hR0 := hR1
            have hf0 := hf1
            refine jj_go C 1 rfl ?_
            refine jj_getf C rfl fl_MO_27 hy rfl ?_
            refine jj_go C 2 rfl ?_
            refine jj_zast C (n := 6) (f := (sg 5)) (j := j) rfl (hR1.oc (k := 5) (by decide) (by decide) (by decide)) rfl (by omega) (by decide) ?_
            have hR2 := hR1.set (k := 5) (by decide) (by decide) (by decide) (upd (sg 5) j 1)
            have hf2 := hf1.up (a := ad 5) (x := .inl (aC (rr_ty 5), rr_len 5, .inl (upd (sg 5) j 1))) (Or.inl (rr_S_k (by decide)))
            generalize hh2 : (jj_up h1 (ad 5) (.inl (aC (rr_ty 5), rr_len 5, .inl (upd (sg 5) j 1)))) = h2 at hR2 hf2
            refine jj_eq (h' := h2) rfl rfl rfl hh2 ?_
            refine jj_go C 1 rfl ?_
            refine jj_callV C rfl ml_MO_213 wd_1088 hR2.oy rfl se_MO_MO_shorten (rr_shorten hR2 (by rw [e31]; exact hQ)) (rest := []) rfl rfl ⟨Nat.le_of_ble_eq_true rfl, Nat.le_of_ble_eq_true rfl⟩ (Nat.le_of_ble_eq_true rfl) (Nat.le_of_ble_eq_true rfl) (Nat.le_of_ble_eq_true rfl) ?_
            rintro q9 h3 ⟨rfl, hR3, hf3⟩
            have hf3 := hf2.tr hf3
            refine jj_go C 5 rfl ?_
            refine jj_top (show (18 : Int32) + nI j = nI (18 + j) from nI_add 18 j) ?_
            refine jj_callV C rfl ml_MO_91 wd_984 hR3.oy rfl se_MO_MO_copy (mo_copy (f := 31) (t := 18 + j) hR3.oT (by decide) (by omega) (by omega)) (rest := []) rfl rfl ⟨Nat.le_of_ble_eq_true rfl, Nat.le_of_ble_eq_true rfl⟩ (Nat.le_of_ble_eq_true rfl) (Nat.le_of_ble_eq_true rfl) (Nat.le_of_ble_eq_true rfl) ?_
            rintro q9 h4 ⟨rfl, hT4, hf4⟩
            have hR4 := hR3.text hT4 hf4
            have hf4 : jj_fr (rr_S y ad) h h4 := hf3.tr (rr_fr01 hf4)
            rw [jr_up_n (show 31 ≠ 32 by decide), e31] at hR4
            refine jj_go C 5 rfl ?_
            refine jj_top (show (24 : Int32) + nI j = nI (24 + j) from nI_add 24 j) ?_
            refine jj_callV C rfl ml_MO_91 wd_984 hR4.oy rfl se_MO_MO_copy (mo_copy (f := 32) (t := 24 + j) hR4.oT (by decide) (by omega) (by omega)) (rest := []) rfl rfl ⟨Nat.le_of_ble_eq_true rfl, Nat.le_of_ble_eq_true rfl⟩ (Nat.le_of_ble_eq_true rfl) (Nat.le_of_ble_eq_true rfl) (Nat.le_of_ble_eq_true rfl) ?_
            rintro q9 h5 ⟨rfl, hT5, hf5⟩
            have hR5 := hR4.text hT5 hf5
            have hf5 : jj_fr (rr_S y ad) h h5 := hf4.tr (rr_fr01 hf5)
            rw [jr_up_n (show 32 ≠ 18 + j by omega), jr_up_s] at hR5
            refine jj_go C 1 rfl ?_
            refine jj_iret C rfl rfl rfl (Nat.le_of_ble_eq_true rfl) (Nat.le_of_ble_eq_true rfl) ⟨by rw [d1], hf5, (fun q => by rw [d2] at q; cases q), fun n q => ?_⟩
            rw [d2] at q
            cases q
            exact ⟨_, _, _, hR5, (((hs1.set 5 _).rs (Or.inr rfl) _).up (18 + j) _).up (24 + j) _⟩
          · rw [if_neg z] at hg
            refine jj_go C 2 rfl ?_
            exact ih (j + 1) (v + 1) (by rw [hv, nI_1]) (by omega) hg
      refine jj_go C 2 rfl ?_
      exact free 6 0 0 nI_0.symm rfl rfl
  have loop : ∀ (l1 : List Nat) (k n1 : Nat), tt.drop k = l1 → k + l1.length = tt.length → n1 + px_hd l1 = px_hd tt → n1 ≤ k → jj_J p l e (jj_rm 5 0 0) s m args below meth cc D base 3 (MQ below (jj_Q D base (fun q h' => q = some (.int (px_dn tt (sg 5))) ∧ jj_fr (rr_S y ad) h h' ∧ (px_dq tt (sg 5) = none → RX aC h' y ad (jr_up rh 33 []) sg mu io) ∧ (∀ n, px_dq tt (sg 5) = some n → RX aC h' y ad (jr_up (jr_up (jr_up rh 33 []) (18 + n) tt) (24 + n) (f 0 0)) (va_up sg 5 (upd (sg 5) n 1)) mu io))) args s 0 0 (jj_A base)) 8 [(0, .ref y), (1, .int (nI n1)), (2, .int (nI k))] [] h1 0 0 := by
    intro l1
    induction l1 with
    | nil =>
      intro k n1 e1 hk hn hk1
      have hn : n1 = px_hd tt := hn
      have hk : k = tt.length := hk
      subst hn
      refine jj_go C 2 rfl ?_
      refine jj_getf C rfl fl_MO_13 hy f1 ?_
      refine jj_go C 1 rfl ?_
      refine jj_iald C (j := 31) rfl g1 rfl (by decide) (by decide) ?_
      refine jj_top r1 ?_
      refine jj_if C rfl (fun _ => ?_) (fun z => absurd (nI_le (by omega) (by omega)) z)
      refine jj_go C 2 rfl ?_
      refine jj_if C rfl (fun z => ?_) (fun z => ?_)
      · have hle := (nI_leI (a := px_hd tt) (b := 8) (by omega) (by decide)).mp z
        exact cont (by omega) _
      · have hle : ¬ px_hd tt ≤ 8 := fun q => z (nI_le q (by decide))
        have d1 : px_dn tt (sg 5) = -4 := by
          unfold px_dn
          rw [if_pos (by omega)]
        have d2 : px_dq tt (sg 5) = none := by
          unfold px_dq
          rw [if_pos (by omega)]
        refine jj_go C 1 rfl ?_
        exact jj_iret C rfl rfl rfl (Nat.le_of_ble_eq_true rfl) (Nat.le_of_ble_eq_true rfl) ⟨by rw [d1], hf1, (fun _ => ⟨_, _, _, hR1, hs1⟩), fun n q => by rw [d2] at q; cases q⟩
    | cons c l1 ih =>
      intro k n1 e1 hk hn hk1
      obtain ⟨x1, x2, x3⟩ := qd_cons e1
      have hc := hch k
      rw [x1] at hc
      have hk' : k + 1 + l1.length = tt.length := by
        have : (c :: l1).length = l1.length + 1 := rfl
        omega
      rw [px_hd_s] at hn
      refine jj_go C 2 rfl ?_
      refine jj_getf C rfl fl_MO_13 hy f1 ?_
      refine jj_go C 1 rfl ?_
      refine jj_iald C (j := 31) rfl g1 rfl (by decide) (by decide) ?_
      refine jj_top r1 ?_
      refine jj_if C rfl (fun z => absurd z (nI_ge x3 (by omega))) (fun _ => ?_)
      refine jj_go C 3 rfl ?_
      refine jj_callV C rfl ml_MO_83 wd_988 hy rfl se_MO_MO_get1 (rr_get1 (r := 31) (x := nI k) hR1 (by decide)) (rest := []) rfl rfl ⟨Nat.le_of_ble_eq_true rfl, Nat.le_of_ble_eq_true rfl⟩ (Nat.le_of_ble_eq_true rfl) (Nat.le_of_ble_eq_true rfl) (Nat.le_of_ble_eq_true rfl) ?_
      rintro q9 h9 ⟨rfl, hh9⟩
      rw [hh9]
      rw [e31, jr_g_n (by omega), x1]
      refine jj_go C 1 rfl ?_
      refine jj_if C rfl (fun z => ?_) (fun z => ?_)
      · have g := (nI_eq (a := c) (b := 40) (by omega) (by decide)).mp z
        rw [if_pos (Or.inl g)] at hn
        refine jj_go C 3 rfl ?_
        rw [nI_1, nI_1]
        exact ih (k + 1) (n1 + 1) x2 hk' (by omega) (by omega)
      · have g : ¬ c = 40 := fun q => z (by rw [q]; rfl)
        refine jj_go C 3 rfl ?_
        refine jj_callV C rfl ml_MO_83 wd_988 hy rfl se_MO_MO_get1 (rr_get1 (r := 31) (x := nI k) hR1 (by decide)) (rest := []) rfl rfl ⟨Nat.le_of_ble_eq_true rfl, Nat.le_of_ble_eq_true rfl⟩ (Nat.le_of_ble_eq_true rfl) (Nat.le_of_ble_eq_true rfl) (Nat.le_of_ble_eq_true rfl) ?_
        rintro q9 h9 ⟨rfl, hh9⟩
        rw [hh9]
        rw [e31, jr_g_n (by omega), x1]
        refine jj_go C 1 rfl ?_
        refine jj_if C rfl (fun z2 => ?_) (fun z2 => ?_)
        · have g2 := (nI_eq (a := c) (b := 33) (by omega) (by decide)).mp z2
          rw [if_pos (Or.inr g2)] at hn
          refine jj_go C 3 rfl ?_
          rw [nI_1, nI_1]
          exact ih (k + 1) (n1 + 1) x2 hk' (by omega) (by omega)
        · have g2 : ¬ c = 33 := fun q => z2 (by rw [q]; rfl)
          rw [if_neg (by omega)] at hn
          refine jj_go C 2 rfl ?_
          rw [nI_1]
          exact ih (k + 1) n1 x2 hk' (by omega) (by omega)
  refine jj_go C 4 rfl ?_
  exact loop tt 0 0 List.drop_zero (by omega) (by omega) (Nat.le_refl _)
end MDF
