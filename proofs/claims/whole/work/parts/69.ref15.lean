/-! The reference: shorten -/
theorem qd_b_g {t : List Nat} {p : Nat} (hp : p < 1000) : jr_g t (nI p - 1) = qd_b t p := by
  cases p with
  | zero => rfl
  | succ n => rw [qd_b_s, show nI (n + 1) - 1 = nI n from pk_sub (a := n + 1) (b := 1) (by omega), jr_g_n (by omega)]
theorem qd_b_lt {t : List Nat} {p : Nat} (h : ∀ i, t.getD i 0 < 128) : qd_b t p < 128 := by
  unfold qd_b
  split
  · decide
  · exact h _
section MSH
variable {l : Launch} {D : va_G} {aC : Nat → ClassId} {base : Nat} {h : jjHp} {y : Nat} {ad : Nat → Nat} {rh : Nat → List Nat} {sg : Nat → Nat → Int32} {mu : Nat → Int64} {io : Nat → Int32}
theorem rr_shorten {j0 k0 : Nat} {f : Nat → Nat → List Nat} {A : (Nat → Option Int32) → Nat} (hR : RR aC h y ad rh sg mu io) (hQ : QQ 2 (rh 31) f j0 k0 A) : jj_Ct l D aC base yn_MO_shorten yb_MO_shorten 5 none 3 0 0 [.ref y] h (fun q h' => q = none ∧ RR aC h' y ad (jr_up rh 32 (f 0 0)) sg mu io ∧ jj_fr (rr_S y ad) h h') := by
  obtain ⟨hlen, hch⟩ := hR.len (r := 31) (by decide)
  have e31 : ∀ o, jr_up rh 32 o 31 = rh 31 := fun o => jr_up_n (by decide)
  refine jj_start (tb := tb_MO_shorten) (by decide) tg_MO_shorten (Nat.le_of_ble_eq_true rfl) ?_
  intro p e s m args below meth cc C
  have put : ∀ (h1 h' : jjHp) (X : List Nat) (c : Nat), RR aC h1 y ad (jr_up rh 32 X) sg mu io → jr_T aC h' y (ad 0) (ad 1) (rr_fs ad io) (jr_up (jr_up rh 32 X) 32 (jr_up rh 32 X 32 ++ [c])) → jj_fr [ad 0, ad 1] h1 h' → RR aC h' y ad (jr_up rh 32 (X ++ [c])) sg mu io ∧ jj_fr (rr_S y ad) h1 h' := by
    intro h1 h' X c hR1 hT' hf
    rw [jr_up_s, jr_up_up] at hT'
    exact ⟨hR1.text hT' hf, rr_fr01 hf⟩
  have put105 : ∀ (p1 c : Nat) (o : List Nat) (b3 b4 : Bool) (h1 : jjHp), c < 128 → o.length ≤ p1 → p1 < (rh 31).length → RR aC h1 y ad (jr_up rh 32 o) sg mu io → jj_fr (rr_S y ad) h h1 → (∀ h2, RR aC h2 y ad (jr_up rh 32 (if b3 = false ∧ b4 = false then o ++ [c] else o)) sg mu io → jj_fr (rr_S y ad) h h2 → jj_J p l e (jj_rm 3 0 0) s m args below meth cc D base 5 (MQ below (jj_Q D base (fun q h' => q = none ∧ RR aC h' y ad (jr_up rh 32 (f 0 0)) sg mu io ∧ jj_fr (rr_S y ad) h h')) args s 0 0 (jj_A base)) 10 [(0, .ref y), (1, .int (nI (p1 + 1)))] [] h2 0 0) → jj_J p l e (jj_rm 3 0 0) s m args below meth cc D base 5 (MQ below (jj_Q D base (fun q h' => q = none ∧ RR aC h' y ad (jr_up rh 32 (f 0 0)) sg mu io ∧ jj_fr (rr_S y ad) h h')) args s 0 0 (jj_A base)) 105 [(0, .ref y), (1, .int (nI p1)), (2, .int (nI c)), (3, .int (jb_I b3)), (4, .int (jb_I b4))] [] h1 0 0 := by
    intro p1 c o b3 b4 h1 hc ho hp1 hR1 hf1 hw
    have nxt : ∀ h2, jj_J p l e (jj_rm 3 0 0) s m args below meth cc D base 5 (MQ below (jj_Q D base (fun q h' => q = none ∧ RR aC h' y ad (jr_up rh 32 (f 0 0)) sg mu io ∧ jj_fr (rr_S y ad) h h')) args s 0 0 (jj_A base)) 10 [(0, .ref y), (1, .int (nI (p1 + 1)))] [] h2 0 0 → jj_J p l e (jj_rm 3 0 0) s m args below meth cc D base 5 (MQ below (jj_Q D base (fun q h' => q = none ∧ RR aC h' y ad (jr_up rh 32 (f 0 0)) sg mu io ∧ jj_fr (rr_S y ad) h h')) args s 0 0 (jj_A base)) 121 [(0, .ref y), (1, .int (nI p1)), (2, .int (nI c)), (3, .int (jb_I b3)), (4, .int (jb_I b4))] [] h2 0 0 := by
      intro h2 hj
      refine jj_go C 2 rfl ?_
      refine jj_less (lc' := [(0, .ref y), (1, .int (nI p1 + 1))]) (fun q hq => List.mem_append_left [_, _, _] hq) (Nat.le_refl _) (Nat.le_refl _) ?_
      rw [nI_1]
      exact hj
    refine jj_go C 1 rfl ?_
    cases b3 with
    | true =>
      rw [if_neg (fun q => by cases q.1)] at hw
      refine jj_if C rfl (fun z => absurd z (by decide)) (fun _ => ?_)
      exact nxt h1 (hw h1 hR1 hf1)
    | false =>
      refine jj_if C rfl (fun _ => ?_) (fun z => absurd rfl z)
      refine jj_go C 1 rfl ?_
      cases b4 with
      | true =>
        rw [if_neg (fun q => by cases q.2)] at hw
        refine jj_if C rfl (fun z => absurd z (by decide)) (fun _ => ?_)
        exact nxt h1 (hw h1 hR1 hf1)
      | false =>
        rw [if_pos ⟨rfl, rfl⟩] at hw
        refine jj_if C rfl (fun _ => ?_) (fun z => absurd rfl z)
        refine jj_go C 3 rfl ?_
        refine jj_callV C rfl ml_MO_87 wd_968 hR1.oy rfl se_MO_MO_put (mo_put (r := 32) (k := c) hR1.oT (by decide) (by rw [jr_up_s]; omega) hc) (rest := []) rfl rfl ⟨Nat.le_of_ble_eq_true rfl, Nat.le_of_ble_eq_true rfl⟩ (Nat.le_of_ble_eq_true rfl) (Nat.le_of_ble_eq_true rfl) (Nat.le_of_ble_eq_true rfl) ?_
        rintro q9 h9 ⟨rfl, hT9, hf9⟩
        obtain ⟨hR9, hf9⟩ := put h1 h9 o c hR1 hT9 hf9
        exact nxt h9 (hw h9 hR9 (hf1.tr hf9))
  have head : ∀ (p1 c : Nat) (o : List Nat) (h1 : jjHp), p1 < (rh 31).length → (rh 31).getD p1 0 = c → RR aC h1 y ad (jr_up rh 32 o) sg mu io → (∀ z : Bool, (z = true ↔ c = 48 ∧ pc_dg ((rh 31).getD (p1 + 1) 0) = true ∧ pc_dg (o.getLastD 0) = false) → jj_J p l e (jj_rm 3 0 0) s m args below meth cc D base 5 (MQ below (jj_Q D base (fun q h' => q = none ∧ RR aC h' y ad (jr_up rh 32 (f 0 0)) sg mu io ∧ jj_fr (rr_S y ad) h h')) args s 0 0 (jj_A base)) 66 [(0, .ref y), (1, .int (nI p1)), (2, .int (nI c)), (3, .int (jb_I z))] [] h1 0 0) → jj_J p l e (jj_rm 3 0 0) s m args below meth cc D base 5 (MQ below (jj_Q D base (fun q h' => q = none ∧ RR aC h' y ad (jr_up rh 32 (f 0 0)) sg mu io ∧ jj_fr (rr_S y ad) h h')) args s 0 0 (jj_A base)) 10 [(0, .ref y), (1, .int (nI p1))] [] h1 0 0 := by
    intro p1 c o h1 hp1 hc hR1 hw
    have hc128 := hch p1
    rw [hc] at hc128
    have hn := hch (p1 + 1)
    obtain ⟨-, hch32⟩ := hR1.len (r := 32) (by decide)
    rw [jr_up_s] at hch32
    have hla := qd_last_lt hch32
    obtain ⟨hy, f0, f1, hne, L, S, g0, g1, hRR⟩ := hR1.oT
    have r1 := (hRR 31 (by decide)).1
    rw [e31] at r1
    refine jj_go C 2 rfl ?_
    refine jj_getf C rfl fl_MO_13 hy f1 ?_
    refine jj_go C 1 rfl ?_
    refine jj_iald C (j := 31) rfl g1 rfl (by decide) (by decide) ?_
    refine jj_top r1 ?_
    refine jj_if C rfl (fun z => absurd z (nI_ge hp1 (by omega))) (fun _ => ?_)
    refine jj_go C 3 rfl ?_
    refine jj_callV C rfl ml_MO_83 wd_988 hy rfl se_MO_MO_get1 (rr_get1 (r := 31) (x := nI p1) hR1 (by decide)) (rest := []) rfl rfl ⟨Nat.le_of_ble_eq_true rfl, Nat.le_of_ble_eq_true rfl⟩ (Nat.le_of_ble_eq_true rfl) (Nat.le_of_ble_eq_true rfl) (Nat.le_of_ble_eq_true rfl) ?_
    rintro q9 h9 ⟨rfl, hh9⟩
    rw [hh9]
    rw [e31, jr_g_n (by omega), hc]
    refine jj_go C 3 rfl ?_
    refine jj_if C rfl (fun z => ?_) (fun z => ?_)
    rotate_left
    · have g : ¬ c = 48 := fun q => z (by rw [q]; rfl)
      refine jj_go C 2 rfl ?_
      exact hw false ⟨fun q => (by cases q), fun q => absurd q.1 g⟩
    have g := (nI_eq (a := c) (b := 48) (by omega) (by decide)).mp z
    refine jj_go C 5 rfl ?_
    refine jj_top (nI_1 p1) ?_
    refine jj_callV C rfl ml_MO_83 wd_988 hy rfl se_MO_MO_get1 (rr_get1 (r := 31) (x := nI (p1 + 1)) hR1 (by decide)) (rest := []) rfl rfl ⟨Nat.le_of_ble_eq_true rfl, Nat.le_of_ble_eq_true rfl⟩ (Nat.le_of_ble_eq_true rfl) (Nat.le_of_ble_eq_true rfl) (Nat.le_of_ble_eq_true rfl) ?_
    rintro q9 h9 ⟨rfl, hh9⟩
    rw [hh9]
    rw [e31, jr_g_n (by omega)]
    refine jj_callS C rfl ml_MO_99 wd_1005 (mo_isDigit (c := (rh 31).getD (p1 + 1) 0) (by omega)) (rest := []) rfl rfl ⟨Nat.le_of_ble_eq_true rfl, Nat.le_of_ble_eq_true rfl⟩ (Nat.le_of_ble_eq_true rfl) (Nat.le_of_ble_eq_true rfl) (Nat.le_of_ble_eq_true rfl) ?_
    rintro q9 h9 ⟨rfl, hh9⟩
    rw [hh9]
    cases hd : pc_dg ((rh 31).getD (p1 + 1) 0) with
    | false =>
      refine jj_if C rfl (fun _ => ?_) (fun z => absurd rfl z)
      refine jj_go C 2 rfl ?_
      exact hw false ⟨fun q => (by cases q), fun q => by rw [hd] at q; cases q.2.1⟩
    | true =>
      refine jj_if C rfl (fun z => absurd z (by decide)) (fun _ => ?_)
      refine jj_go C 1 rfl ?_
      refine jj_callV C rfl ml_MO_203 wd_1092 hy rfl se_MO_MO_last (rr_last (u := o) hR1 jr_up_s) (rest := []) rfl rfl ⟨Nat.le_of_ble_eq_true rfl, Nat.le_of_ble_eq_true rfl⟩ (Nat.le_of_ble_eq_true rfl) (Nat.le_of_ble_eq_true rfl) (Nat.le_of_ble_eq_true rfl) ?_
      rintro q9 h9 ⟨rfl, hh9⟩
      rw [hh9]
      refine jj_callS C rfl ml_MO_99 wd_1005 (mo_isDigit (c := o.getLastD 0) (by omega)) (rest := []) rfl rfl ⟨Nat.le_of_ble_eq_true rfl, Nat.le_of_ble_eq_true rfl⟩ (Nat.le_of_ble_eq_true rfl) (Nat.le_of_ble_eq_true rfl) (Nat.le_of_ble_eq_true rfl) ?_
      rintro q9 h9 ⟨rfl, hh9⟩
      rw [hh9]
      cases hd2 : pc_dg (o.getLastD 0) with
      | true =>
        refine jj_if C rfl (fun z => absurd z (by decide)) (fun _ => ?_)
        refine jj_go C 2 rfl ?_
        exact hw false ⟨fun q => (by cases q), fun q => by rw [hd2] at q; cases q.2.2⟩
      | false =>
        refine jj_if C rfl (fun _ => ?_) (fun z => absurd rfl z)
        refine jj_go C 3 rfl ?_
        exact hw true ⟨fun _ => ⟨g, hd, hd2⟩, fun _ => rfl⟩
  have run := QQ.short (t := rh 31) (W := fun p1 o => o.length ≤ p1 → ∀ h1, RR aC h1 y ad (jr_up rh 32 o) sg mu io → jj_fr (rr_S y ad) h h1 → jj_J p l e (jj_rm 3 0 0) s m args below meth cc D base 5 (MQ below (jj_Q D base (fun q h' => q = none ∧ RR aC h' y ad (jr_up rh 32 (f 0 0)) sg mu io ∧ jj_fr (rr_S y ad) h h')) args s 0 0 (jj_A base)) 10 [(0, .ref y), (1, .int (nI p1))] [] h1 0 0) (by
      intro p1 o c hp1 hc n40 n41 hw ho h1 hR1 hf1
      have hc128 := hch p1
      rw [hc] at hc128
      refine head p1 c o h1 hp1 hc hR1 (fun z hz => ?_)
      refine jj_go C 2 rfl ?_
      refine jj_if C rfl (fun q => absurd ((nI_eq (a := c) (b := 40) (by omega) (by decide)).mp q) n40) (fun _ => ?_)
      refine jj_go C 2 rfl ?_
      refine jj_if C rfl (fun q => absurd ((nI_eq (a := c) (b := 41) (by omega) (by decide)).mp q) n41) (fun _ => ?_)
      refine jj_go C 2 rfl ?_
      refine put105 p1 c o z false h1 hc128 ho hp1 hR1 hf1 (fun h2 hR2 hf2 => ?_)
      by_cases hcond : c = 48 ∧ pc_dg ((rh 31).getD (p1 + 1) 0) = true ∧ pc_dg (o.getLastD 0) = false
      · rw [hz.mpr hcond, if_neg (fun q => by cases q.1)] at hR2
        rw [if_pos hcond] at hw
        exact hw (by omega) h2 hR2 hf2
      · have hz0 : z = false := by
          cases z with
          | false => rfl
          | true => exact absurd (hz.mp rfl) hcond
        rw [if_pos ⟨hz0, rfl⟩] at hR2
        rw [if_neg hcond] at hw
        exact hw (by rw [List.length_append]; show o.length + 1 ≤ _; omega) h2 hR2 hf2) (by
      intro p1 o s1 f1 j1 k1 A1 rest he hq hw ho h1 hR1 hf1
      obtain ⟨x1, x2, x3⟩ := qd_cons he
      refine head p1 40 o h1 x3 x1 hR1 (fun z hz => ?_)
      have hz0 : z = false := by
        cases z with
        | false => rfl
        | true => exact absurd (hz.mp rfl).1 (by decide)
      refine jj_go C 2 rfl ?_
      refine jj_if C rfl (fun _ => ?_) (fun q => absurd rfl q)
      refine jj_go C 2 rfl ?_
      refine jj_callV C rfl ml_MO_207 wd_1096 hR1.oy rfl se_MO_MO_needed (rr_needed (p0 := p1) (c0 := qd_b (rh 31) p1) (G := qq_nd (qd_b (rh 31) p1) j1 (rest.headD 0)) hR1 (by rw [e31]; exact he) hq (by rw [e31]; exact qd_b_g (by omega)) (qd_b_lt hch) rfl) (rest := []) rfl rfl ⟨Nat.le_of_ble_eq_true rfl, Nat.le_of_ble_eq_true rfl⟩ (Nat.le_of_ble_eq_true rfl) (Nat.le_of_ble_eq_true rfl) (Nat.le_of_ble_eq_true rfl) ?_
      rintro q9 h9 ⟨rfl, hh9⟩
      rw [hh9]
      cases hn : qq_nd (qd_b (rh 31) p1) j1 (rest.headD 0) with
      | false =>
        rw [hn, if_neg (by decide)] at hw
        refine jj_if C rfl (fun _ => ?_) (fun q => absurd rfl q)
        refine jj_go C 3 rfl ?_
        refine put105 p1 40 o z true h1 (by decide) ho x3 hR1 hf1 (fun h2 hR2 hf2 => ?_)
        rw [if_neg (fun q => by cases q.2)] at hR2
        exact hw (by omega) h2 hR2 hf2
      | true =>
        rw [hn, if_pos rfl] at hw
        refine jj_if C rfl (fun q => absurd q (by decide)) (fun _ => ?_)
        refine jj_go C 2 rfl ?_
        refine jj_if C rfl (fun q => absurd q (by decide)) (fun _ => ?_)
        refine jj_go C 2 rfl ?_
        refine put105 p1 40 o z false h1 (by decide) ho x3 hR1 hf1 (fun h2 hR2 hf2 => ?_)
        rw [if_pos ⟨hz0, rfl⟩] at hR2
        exact hw (by rw [List.length_append]; show o.length + 1 ≤ _; omega) h2 hR2 hf2) (by
      intro p1 o s1 f1 j1 k1 A1 rest he hq hw ho h1 hR1 hf1
      obtain ⟨x1, x2, x3⟩ := qd_cons he
      obtain ⟨x4, x5, x6⟩ := qd_cons (qd_app x2)
      have hpb := (hq.pair he (n := 60) (by omega)).2
      refine head (p1 + 1 + s1.length) 41 o h1 x6 x4 hR1 (fun z hz => ?_)
      have hz0 : z = false := by
        cases z with
        | false => rfl
        | true => exact absurd (hz.mp rfl).1 (by decide)
      refine jj_go C 2 rfl ?_
      refine jj_if C rfl (fun q => absurd q (by decide)) (fun _ => ?_)
      refine jj_go C 2 rfl ?_
      refine jj_if C rfl (fun _ => ?_) (fun q => absurd rfl q)
      refine jj_go C 3 rfl ?_
      refine jj_callV C rfl ml_MO_193 wd_1100 hR1.oy rfl se_MO_MO_partner (rr_partner_b (p0 := p1 + 1 + s1.length) (r := p1) hR1 (by omega) (by rw [e31]; exact x4) (by rw [e31]; exact hpb)) (rest := [.ref y]) rfl rfl ⟨Nat.le_of_ble_eq_true rfl, Nat.le_of_ble_eq_true rfl⟩ (Nat.le_of_ble_eq_true rfl) (Nat.le_of_ble_eq_true rfl) (Nat.le_of_ble_eq_true rfl) ?_
      rintro q9 h9 ⟨rfl, hh9⟩
      rw [hh9]
      refine jj_callV C rfl ml_MO_207 wd_1096 hR1.oy rfl se_MO_MO_needed (rr_needed (p0 := p1) (c0 := qd_b (rh 31) p1) (G := qq_nd (qd_b (rh 31) p1) j1 (rest.headD 0)) hR1 (by rw [e31]; exact he) hq (by rw [e31]; exact qd_b_g (by omega)) (qd_b_lt hch) rfl) (rest := []) rfl rfl ⟨Nat.le_of_ble_eq_true rfl, Nat.le_of_ble_eq_true rfl⟩ (Nat.le_of_ble_eq_true rfl) (Nat.le_of_ble_eq_true rfl) (Nat.le_of_ble_eq_true rfl) ?_
      rintro q9 h9 ⟨rfl, hh9⟩
      rw [hh9]
      cases hn : qq_nd (qd_b (rh 31) p1) j1 (rest.headD 0) with
      | false =>
        rw [hn, if_neg (by decide)] at hw
        refine jj_if C rfl (fun _ => ?_) (fun q => absurd rfl q)
        refine jj_go C 3 rfl ?_
        refine put105 (p1 + 1 + s1.length) 41 o z true h1 (by decide) ho x6 hR1 hf1 (fun h2 hR2 hf2 => ?_)
        rw [if_neg (fun q => by cases q.2)] at hR2
        exact hw (by omega) h2 hR2 hf2
      | true =>
        rw [hn, if_pos rfl] at hw
        refine jj_if C rfl (fun q => absurd q (by decide)) (fun _ => ?_)
        refine jj_go C 2 rfl ?_
        refine put105 (p1 + 1 + s1.length) 41 o z false h1 (by decide) ho x6 hR1 hf1 (fun h2 hR2 hf2 => ?_)
        rw [if_pos ⟨hz0, rfl⟩] at hR2
        exact hw (by rw [List.length_append]; show o.length + 1 ≤ _; omega) h2 hR2 hf2) hQ 0 [] [] (by rw [List.drop_zero, List.append_nil]) rfl rfl (by
      intro ho h1 hR1 hf1
      obtain ⟨hy, f0, f1, hne, L, S, g0, g1, hRR⟩ := hR1.oT
      have r1 := (hRR 31 (by decide)).1
      rw [e31] at r1
      refine jj_go C 2 rfl ?_
      refine jj_getf C rfl fl_MO_13 hy f1 ?_
      refine jj_go C 1 rfl ?_
      refine jj_iald C (j := 31) rfl g1 rfl (by decide) (by decide) ?_
      refine jj_top r1 ?_
      refine jj_if C rfl (fun _ => ?_) (fun z => absurd (nI_le (by omega) (by omega)) z)
      exact jj_vret C rfl rfl (Nat.le_of_ble_eq_true rfl) (Nat.le_of_ble_eq_true rfl) ⟨rfl, hR1, hf1⟩)
  obtain ⟨hy, f0, f1, hne, L, S, g0, g1, hRR⟩ := hR.oT
  have n1 : ad 1 ≠ y := kx_ne (m := 0) (aC := aC) hy g1
  refine jj_go C 1 rfl ?_
  refine jj_getf C rfl fl_MO_13 hy f1 ?_
  refine jj_go C 2 rfl ?_
  refine jj_iast C (j := 32) rfl g1 rfl (by decide) (by decide) ?_
  have hfr : jj_fr [ad 0, ad 1] h (jj_up h (ad 1) (.inl (aC 0, 34, .inl (upd S 32 0)))) := jj_fr.rf.up (Or.inl (List.mem_cons_of_mem _ List.mem_cons_self))
  refine jj_go C 2 rfl ?_
  exact run (Nat.le_refl _) _ (hR.text ⟨(jj_up_n (Ne.symm n1)).trans hy, f0, f1, hne, L, upd S 32 0, (jj_up_n hne).trans g0, jj_up_s, jr_R_clear hRR⟩ hfr) (rr_fr01 hfr)
end MSH
