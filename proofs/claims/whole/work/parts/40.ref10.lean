/-! The reference: register -/
theorem va_up_comm {f : Nat → Nat → Int32} {j k : Nat} {a b : Nat → Int32} (h : j ≠ k) : va_up (va_up f j a) k b = va_up (va_up f k b) j a := by
  funext i
  unfold va_up
  by_cases h1 : i = k
  · rw [if_pos h1, if_neg (by omega), if_pos h1]
  · by_cases h2 : i = j
    · rw [if_neg h1, if_pos h2, if_pos h2]
    · rw [if_neg h1, if_neg h2, if_neg h2, if_neg h1]
/-- the bean that register makes -/
def px_new (th : Nat → Int32) (rh : Nat → List Nat) (t : List Nat) : Option Nat := if px_rd t false = true ∧ px_bw th rh (px_fo t) 12 0 = none then px_free th 12 0 else none
def px_rg (th : Nat → Int32) (rh : Nat → List Nat) (t : List Nat) : Int32 := if px_rd t false = true then (if px_bw th rh (px_fo t) 12 0 = none then (match px_free th 12 0 with | some b => nI b | none => -4) else -3) else -1
def px_nsg (sg : Nat → Nat → Int32) (b n : Nat) : Nat → Nat → Int32 := va_up (va_up (va_up sg 2 (upd (sg 2) b 1)) 4 (px_clr (sg 4) b n)) 3 (px_clr (sg 3) b n)
theorem px_nsg_s {sg : Nat → Nat → Int32} {b n : Nat} : va_up (va_up (px_nsg sg b n) 4 (upd (px_clr (sg 4) b n) (5 * b + n) 0)) 3 (upd (px_clr (sg 3) b n) (5 * b + n) 0) = px_nsg sg b (n + 1) := by
  unfold px_nsg
  rw [px_clr_s, px_clr_s, va_up_comm (j := 3) (k := 4) (by decide), bx_uu, bx_uu]
theorem px_nsg_0 {sg : Nat → Nat → Int32} {b : Nat} : px_nsg sg b 0 = va_up sg 2 (upd (sg 2) b 1) := by
  unfold px_nsg
  rw [px_clr_0, px_clr_0]
  funext i
  unfold va_up
  by_cases h1 : i = 3
  · subst h1
    rfl
  · by_cases h2 : i = 4
    · subst h2
      rfl
    · rw [if_neg h1, if_neg h2]
theorem sc.nsg {rh rh' : Nat → List Nat} {sg sg' : Nat → Nat → Int32} {io io' : Nat → Int32} (s : sc rh sg io rh' sg' io') (b n : Nat) : sc rh (px_nsg sg b n) io rh' (px_nsg sg' b n) io' := by
  unfold px_nsg
  rw [s.2.1 2 (by decide) (by decide), s.2.1 3 (by decide) (by decide), s.2.1 4 (by decide) (by decide)]
  exact ((s.set 2 _).set 4 _).set 3 _
section MU
variable {l : Launch} {D : va_G} {aC : Nat → ClassId} {base : Nat} {h : jjHp} {y : Nat} {ad : Nat → Nat} {rh : Nat → List Nat} {sg : Nat → Nat → Int32} {mu : Nat → Int64} {io : Nat → Int32}
theorem rr_register (hR : RR aC h y ad rh sg mu io) : jj_Ct l D aC base yn_MO_register yb_MO_register 3 (some .int) 5 0 0 [.ref y] h (fun q h' => q = some (.int (px_rg (sg 2) rh (rh 33))) ∧ jj_fr (rr_S y ad) h h' ∧ (px_new (sg 2) rh (rh 33) = none → RX aC h' y ad (jr_up rh 33 []) sg mu io) ∧ (∀ b, px_new (sg 2) rh (rh 33) = some b → RX aC h' y ad (jr_up (jr_up rh 33 []) b (px_fo (rh 33))) (gv_sg (px_nsg sg b 5) io 0 (nI b) 0) mu (gv_io io 0))) := by
  refine jj_start (tb := tb_MO_register) (by decide) tg_MO_register (Nat.le_of_ble_eq_true rfl) ?_
  intro p e s m args below meth cc C
  refine jj_go C 1 rfl ?_
  refine jj_callV C rfl ml_MO_157 wd_976 hR.oy rfl se_MO_MO_takeName (rr_takeName hR) (rest := []) rfl rfl ⟨Nat.le_of_ble_eq_true rfl, Nat.le_of_ble_eq_true rfl⟩ (Nat.le_of_ble_eq_true rfl) (Nat.le_of_ble_eq_true rfl) (Nat.le_of_ble_eq_true rfl) ?_
  rintro q9 h1 ⟨rfl, hf1, rh1, sg1, io1, hR1, hs1, h32⟩
  rcases jb_cases (px_rd (rh 33) false) with ⟨e1, e2⟩ | ⟨e1, e2⟩
  rotate_left
  · rw [e2]
    refine jj_if C rfl (fun _ => ?_) (fun z => absurd rfl z)
    refine jj_go C 1 rfl ?_
    exact jj_iret C rfl rfl rfl (Nat.le_of_ble_eq_true rfl) (Nat.le_of_ble_eq_true rfl) ⟨by unfold px_rg; rw [if_neg (by rw [e1]; decide)], hf1, (fun _ => ⟨_, _, _, hR1, hs1⟩), fun b q => by unfold px_new at q; rw [if_neg (fun z => by rw [e1] at z; cases z.1)] at q; cases q⟩
  rw [e2]
  refine jj_if C rfl (fun z => absurd z (by decide)) (fun _ => ?_)
  refine jj_go C 2 rfl ?_
  refine jj_callV C rfl ml_MO_161 wd_1021 hR1.oy rfl se_MO_MO_beanWith (rr_beanWith (r := 32) hR1 (by decide)) (rest := []) rfl rfl ⟨Nat.le_of_ble_eq_true rfl, Nat.le_of_ble_eq_true rfl⟩ (Nat.le_of_ble_eq_true rfl) (Nat.le_of_ble_eq_true rfl) (Nat.le_of_ble_eq_true rfl) ?_
  rintro q9 h9 ⟨rfl, hh9⟩
  rw [hh9]
  have e2' := hs1.2.1 2 (by decide) (by decide)
  have hbw : px_bw (sg1 2) rh1 (rh1 32) 12 0 = px_bw (sg 2) rh (px_fo (rh 33)) 12 0 := by
    rw [h32 e1, e2', px_bw_cg (rh := rh) 12 0 (fun i hi => (hs1.1 i (by omega) (by omega)).trans (jr_up_n (by omega)))]
  rw [hbw]
  cases hb : px_bw (sg 2) rh (px_fo (rh 33)) 12 0 with
  | some b0 =>
    have hlt := px_bw_lt 12 0 hb
    refine jj_if C rfl (fun z => absurd z (nI_pos (show b0 < 2 ^ 31 by omega))) (fun _ => ?_)
    refine jj_go C 1 rfl ?_
    exact jj_iret C rfl rfl rfl (Nat.le_of_ble_eq_true rfl) (Nat.le_of_ble_eq_true rfl) ⟨by unfold px_rg; rw [if_pos e1, hb, if_neg (by simp)], hf1, (fun _ => ⟨_, _, _, hR1, hs1⟩), fun b q => by unfold px_new at q; rw [hb, if_neg (fun z => by cases z.2)] at q; cases q⟩
  | none =>
    have hrg : px_rg (sg 2) rh (rh 33) = (match px_free (sg 2) 12 0 with | some b => nI b | none => -4) := by
      unfold px_rg
      rw [if_pos e1, if_pos hb]
    have hnw : px_new (sg 2) rh (rh 33) = px_free (sg 2) 12 0 := by
      unfold px_new
      rw [if_pos ⟨e1, hb⟩]
    refine jj_if C rfl (fun _ => ?_) (fun z => absurd (show px_oi none < 0 by decide) z)
    -- the new bean
    have made : ∀ b, px_free (sg 2) 12 0 = some b → b < 12 → jj_J p l e (jj_rm 5 0 0) s m args below meth cc D base 3 (MQ below (jj_Q D base (fun q h' => q = some (.int (px_rg (sg 2) rh (rh 33))) ∧ jj_fr (rr_S y ad) h h' ∧ (px_new (sg 2) rh (rh 33) = none → RX aC h' y ad (jr_up rh 33 []) sg mu io) ∧ (∀ b, px_new (sg 2) rh (rh 33) = some b → RX aC h' y ad (jr_up (jr_up rh 33 []) b (px_fo (rh 33))) (gv_sg (px_nsg sg b 5) io 0 (nI b) 0) mu (gv_io io 0)))) args s 0 0 (jj_A base)) 53 [(0, .ref y), (1, .int (nI b))] [] h1 0 0 := by
      intro b hGb hlt
      rw [hGb] at hrg hnw
      refine jj_go C 1 rfl ?_
      refine jj_getf C rfl fl_MO_17 hR1.oy rfl ?_
      refine jj_go C 2 rfl ?_
      refine jj_zast C (n := 12) (f := sg1 2) rfl (hR1.oc (k := 2) (by decide) (by decide) (by decide)) rfl hlt (by decide) ?_
      have hR2 := hR1.set (k := 2) (by decide) (by decide) (by decide) (upd (sg1 2) b 1)
      have hf2 := hf1.up (a := ad 2) (x := .inl (aC (rr_ty 2), rr_len 2, .inl (upd (sg1 2) b 1))) (Or.inl (rr_S_k (by decide)))
      generalize hh2 : (jj_up h1 (ad 2) (.inl (aC (rr_ty 2), rr_len 2, .inl (upd (sg1 2) b 1)))) = h2 at hR2 hf2
      refine jj_eq (h' := h2) rfl rfl rfl hh2 ?_
      rw [← px_nsg_0] at hR2
      refine jj_go C 3 rfl ?_
      refine jj_callV C rfl ml_MO_91 wd_984 hR2.oy rfl se_MO_MO_copy (mo_copy (f := 32) (t := b) hR2.oT (by decide) (by omega) (by omega)) (rest := []) rfl rfl ⟨Nat.le_of_ble_eq_true rfl, Nat.le_of_ble_eq_true rfl⟩ (Nat.le_of_ble_eq_true rfl) (Nat.le_of_ble_eq_true rfl) (Nat.le_of_ble_eq_true rfl) ?_
      rintro q9 h3 ⟨rfl, hT3, hf3⟩
      have hR3 := hR2.text hT3 hf3
      rw [h32 e1] at hR3
      have hf3 := hf2.tr (rr_fr01 hf3)
      have hs3 := hs1.up b (px_fo (rh 33))
      generalize jr_up rh1 b (px_fo (rh 33)) = rh3 at hR3 hs3
      have loop : ∀ (k j : Nat) (v : Int32) (h4 : jjHp), v = nI j → j + k = 5 → RR aC h4 y ad rh3 (px_nsg sg1 b j) mu io1 → jj_fr (rr_S y ad) h h4 → jj_J p l e (jj_rm 5 0 0) s m args below meth cc D base 3 (MQ below (jj_Q D base (fun q h' => q = some (.int (px_rg (sg 2) rh (rh 33))) ∧ jj_fr (rr_S y ad) h h' ∧ (px_new (sg 2) rh (rh 33) = none → RX aC h' y ad (jr_up rh 33 []) sg mu io) ∧ (∀ b, px_new (sg 2) rh (rh 33) = some b → RX aC h' y ad (jr_up (jr_up rh 33 []) b (px_fo (rh 33))) (gv_sg (px_nsg sg b 5) io 0 (nI b) 0) mu (gv_io io 0)))) args s 0 0 (jj_A base)) 69 [(0, .ref y), (1, .int (nI b)), (2, .int v)] [] h4 0 0 := by
        intro k
        induction k with
        | zero =>
          intro j v h4 hv hk hR4 hf4
          have hj : j = 5 := by omega
          subst hj
          refine jj_go C 2 rfl ?_
          refine jj_if C rfl (fun _ => ?_) (fun z => absurd (by rw [hv]; decide) z)
          refine jj_go C 4 rfl ?_
          refine jj_callV C rfl ml_MO_164 wd_1029 hR4.oy rfl se_MO_MO_give (As := [.int 0, .int (nI b), .int 0]) (rr_give hR4) (rest := []) rfl rfl ⟨Nat.le_of_ble_eq_true rfl, Nat.le_of_ble_eq_true rfl⟩ (Nat.le_of_ble_eq_true rfl) (Nat.le_of_ble_eq_true rfl) (Nat.le_of_ble_eq_true rfl) ?_
          rintro q9 h5 ⟨rfl, hR5, hf5⟩
          refine jj_go C 1 rfl ?_
          exact jj_iret C rfl rfl rfl (Nat.le_of_ble_eq_true rfl) (Nat.le_of_ble_eq_true rfl) ⟨by rw [hrg], hf4.tr hf5, (fun q => by rw [hnw] at q; cases q), fun b' q => by rw [hnw] at q; cases q; exact ⟨_, _, _, hR5, (hs3.nsg b 5).give 0 (nI b) 0⟩⟩
        | succ k ih =>
          intro j v h4 hv hk hR4 hf4
          refine jj_go C 2 rfl ?_
          refine jj_if C rfl (fun z => absurd z (by rw [hv]; exact nI_ge (b := 5) (by omega) (by decide))) (fun _ => ?_)
          subst hv
          refine jj_go C 1 rfl ?_
          refine jj_getf C rfl fl_MO_24 hR4.oy rfl ?_
          refine jj_go C 6 rfl ?_
          refine jj_zast C (n := 60) (f := px_clr (sg1 4) b j) (j := 5 * b + j) rfl (hR4.oc (k := 4) (by decide) (by decide) (by decide)) nI_5 (by omega) (by decide) ?_
          have hR5 := hR4.set (k := 4) (by decide) (by decide) (by decide) (upd (px_clr (sg1 4) b j) (5 * b + j) 0)
          have hf5 := hf4.up (a := ad 4) (x := .inl (aC (rr_ty 4), rr_len 4, .inl (upd (px_clr (sg1 4) b j) (5 * b + j) 0))) (Or.inl (rr_S_k (by decide)))
          generalize hh5 : (jj_up h4 (ad 4) (.inl (aC (rr_ty 4), rr_len 4, .inl (upd (px_clr (sg1 4) b j) (5 * b + j) 0)))) = h5 at hR5 hf5
          refine jj_eq (h' := h5) rfl rfl rfl hh5 ?_
          refine jj_go C 1 rfl ?_
          refine jj_getf C rfl fl_MO_21 hR5.oy rfl ?_
          refine jj_go C 6 rfl ?_
          refine jj_iast C (n := 60) (f := px_clr (sg1 3) b j) (j := 5 * b + j) rfl (hR5.oc (k := 3) (by decide) (by decide) (by decide)) nI_5 (by omega) (by decide) ?_
          have hR6 := hR5.set (k := 3) (by decide) (by decide) (by decide) (upd (px_clr (sg1 3) b j) (5 * b + j) 0)
          have hf6 := hf5.up (a := ad 3) (x := .inl (aC (rr_ty 3), rr_len 3, .inl (upd (px_clr (sg1 3) b j) (5 * b + j) 0))) (Or.inl (rr_S_k (by decide)))
          generalize hh6 : (jj_up h5 (ad 3) (.inl (aC (rr_ty 3), rr_len 3, .inl (upd (px_clr (sg1 3) b j) (5 * b + j) 0)))) = h6 at hR6 hf6
          refine jj_eq (h' := h6) rfl rfl rfl hh6 ?_
          rw [px_nsg_s] at hR6
          refine jj_go C 2 rfl ?_
          exact ih (j + 1) _ h6 (nI_1 j) (by omega) hR6 hf6
      refine jj_go C 2 rfl ?_
      exact loop 5 0 0 h3 nI_0.symm (by omega) hR3 hf3
    -- the search
    have free : ∀ (k j : Nat) (v : Int32), v = nI j → j + k = 12 → px_free (sg 2) k j = px_free (sg 2) 12 0 → jj_J p l e (jj_rm 5 0 0) s m args below meth cc D base 3 (MQ below (jj_Q D base (fun q h' => q = some (.int (px_rg (sg 2) rh (rh 33))) ∧ jj_fr (rr_S y ad) h h' ∧ (px_new (sg 2) rh (rh 33) = none → RX aC h' y ad (jr_up rh 33 []) sg mu io) ∧ (∀ b, px_new (sg 2) rh (rh 33) = some b → RX aC h' y ad (jr_up (jr_up rh 33 []) b (px_fo (rh 33))) (gv_sg (px_nsg sg b 5) io 0 (nI b) 0) mu (gv_io io 0)))) args s 0 0 (jj_A base)) 23 [(0, .ref y), (1, .int v)] [] h1 0 0 := by
      intro k
      induction k with
      | zero =>
        intro j v hv hk hg
        have hj : j = 12 := by omega
        subst hj
        have hg : none = px_free (sg 2) 12 0 := hg
        rw [← hg] at hrg hnw
        refine jj_go C 2 rfl ?_
        refine jj_if C rfl (fun _ => ?_) (fun z => absurd (by rw [hv]; decide) z)
        refine jj_go C 2 rfl ?_
        refine jj_if C rfl (fun z => ?_) (fun z => absurd (by rw [hv]; rfl) z)
        refine jj_go C 1 rfl ?_
        exact jj_iret C rfl rfl rfl (Nat.le_of_ble_eq_true rfl) (Nat.le_of_ble_eq_true rfl) ⟨by rw [hrg], hf1, (fun _ => ⟨_, _, _, hR1, hs1⟩), fun b q => by rw [hnw] at q; cases q⟩
      | succ k ih =>
        intro j v hv hk hg
        have hlt : j < 12 := by omega
        have hg : (if sg 2 j = 0 then some j else px_free (sg 2) k (j + 1)) = px_free (sg 2) 12 0 := hg
        refine jj_go C 2 rfl ?_
        refine jj_if C rfl (fun z => absurd z (by rw [hv]; exact nI_ge (b := 12) hlt (by decide))) (fun _ => ?_)
        refine jj_go C 1 rfl ?_
        refine jj_getf C rfl fl_MO_17 hR1.oy rfl ?_
        refine jj_go C 1 rfl ?_
        refine jj_zald C (n := 12) (f := sg1 2) rfl (hR1.oc (k := 2) (by decide) (by decide) (by decide)) hv hlt (by decide) ?_
        refine jj_if C rfl (fun z => ?_) (fun z => ?_)
        · rw [e2'] at z
          rw [if_pos z] at hg
          refine jj_go C 2 rfl ?_
          refine jj_if C rfl (fun z => ?_) (fun _ => ?_)
          · rw [hv] at z
            have := (nI_eq (a := j) (b := 12) (by omega) (by decide)).mp z
            omega
          rw [hv]
          exact made j hg.symm hlt
        · rw [e2'] at z
          rw [if_neg z] at hg
          refine jj_go C 2 rfl ?_
          exact ih (j + 1) (v + 1) (by rw [hv, nI_1]) (by omega) hg
    refine jj_go C 2 rfl ?_
    exact free 12 0 0 nI_0.symm (by omega) rfl
end MU
