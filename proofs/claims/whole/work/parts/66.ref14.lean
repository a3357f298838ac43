/-! The reference: partner, contains, amongSeveral, needed, last -/
theorem nN_s {m : Nat} : -(nI m) - 1 = -(nI (m + 1)) := by rw [← nI_1, Int32.neg_add]
theorem nN_p {m : Nat} : -(nI (m + 1)) + 1 = -(nI m) := by rw [← nI_1, Int32.neg_add, Int32.sub_add_cancel]
theorem nN_0 : ∀ m, m < 200 → (-(nI m) = 0 ↔ m = 0) := by decide +kernel
theorem qd_last_lt {t : List Nat} (h : ∀ i, t.getD i 0 < 128) : t.getLastD 0 < 128 := by
  rw [List.getLastD_eq_getLast?, List.getLast?_eq_getElem?, ← List.getD_eq_getElem?_getD]
  exact h _
section MPN
variable {l : Launch} {D : va_G} {aC : Nat → ClassId} {base : Nat} {h : jjHp} {y : Nat} {ad : Nat → Nat} {rh : Nat → List Nat} {sg : Nat → Nat → Int32} {mu : Nat → Int64} {io : Nat → Int32}
theorem rr_partner_f {p0 r : Nat} (hR : RR aC h y ad rh sg mu io) (hp0 : p0 ≤ 60) (hc0 : (rh 31).getD p0 0 = 40) (hG : px_pf (rh 31) 60 p0 0 = some r) : jj_Ct l D aC base yn_MO_partner yb_MO_partner 7 (some .int) 1 0 0 [.ref y, .int (nI p0)] h (fun q h' => q = some (.int (nI r)) ∧ h' = h) := by
  obtain ⟨hlen, hch⟩ := hR.len (r := 31) (by decide)
  refine jj_start (tb := tb_MO_partner) (by decide) tg_MO_partner (Nat.le_of_ble_eq_true rfl) ?_
  intro p e s m args below meth cc C
  have hy := hR.oy
  have loop : ∀ (k q lv : Nat) (v : Int32), v = nI (60 - k) → k ≤ 60 → q + k ≤ 150 → lv + k ≤ 150 → px_pf (rh 31) k q lv = some r → jj_J p l e (jj_rm 1 0 0) s m args below meth cc D base 7 (MQ below (jj_Q D base (fun q h' => q = some (.int (nI r)) ∧ h' = h)) args s 0 0 (jj_A base)) 26 [(0, .ref y), (1, .int (nI p0)), (2, .int 1), (3, .int (nI lv)), (4, .int (nI q)), (5, .int v)] [] h 0 0 := by
    intro k
    induction k with
    | zero =>
      intro q lv v hv hk hq hl hG
      cases hG
    | succ k ih =>
      intro q lv v hv hk hq hl hG
      have hc := hch q
      have hG : (if (rh 31).getD q 0 = 40 then px_pf (rh 31) k (q + 1) (lv + 1) else if (rh 31).getD q 0 = 41 then (if lv = 0 then none else if lv = 1 then some q else px_pf (rh 31) k (q + 1) (lv - 1)) else if lv = 0 then some q else px_pf (rh 31) k (q + 1) lv) = some r := hG
      refine jj_go C 2 rfl ?_
      refine jj_if C rfl (fun z => absurd z (by rw [hv]; exact nI_ge (b := 60) (by omega) (by decide))) (fun _ => ?_)
      refine jj_go C 3 rfl ?_
      refine jj_callV C rfl ml_MO_83 wd_988 hy rfl se_MO_MO_get1 (rr_get1 (r := 31) (x := nI q) hR (by decide)) (rest := []) rfl rfl ⟨Nat.le_of_ble_eq_true rfl, Nat.le_of_ble_eq_true rfl⟩ (Nat.le_of_ble_eq_true rfl) (Nat.le_of_ble_eq_true rfl) (Nat.le_of_ble_eq_true rfl) ?_
      rintro q9 h9 ⟨rfl, hh9⟩
      rw [hh9]
      rw [jr_g_n (by omega)]
      have back : ∀ lv', lv' + k ≤ 150 → px_pf (rh 31) k (q + 1) lv' = some r → jj_J p l e (jj_rm 1 0 0) s m args below meth cc D base 7 (MQ below (jj_Q D base (fun q h' => q = some (.int (nI r)) ∧ h' = h)) args s 0 0 (jj_A base)) 78 [(0, .ref y), (1, .int (nI p0)), (2, .int 1), (3, .int (nI lv')), (4, .int (nI q)), (5, .int v), (6, .int (nI ((rh 31).getD q 0)))] [] h 0 0 := by
        intro lv' hl' hG'
        refine jj_go C 3 rfl ?_
        refine jj_top (nI_1 q) ?_
        refine jj_go C 3 rfl ?_
        refine jj_less (lc' := [(0, .ref y), (1, .int (nI p0)), (2, .int 1), (3, .int (nI lv')), (4, .int (nI (q + 1))), (5, .int (v + 1))]) (fun q hq => List.mem_append_left [_] hq) (Nat.le_refl _) (Nat.le_refl _) ?_
        exact ih (q + 1) lv' (v + 1) (by rw [hv, nI_1]; congr 1; omega) (by omega) (by omega) hl' hG'
      generalize (rh 31).getD q 0 = c at hG hc back ⊢
      refine jj_go C 3 rfl ?_
      refine jj_if C rfl (fun z => ?_) (fun z => ?_)
      · have g := (nI_eq (a := c) (b := 40) (by omega) (by decide)).mp z
        rw [if_pos g] at hG
        refine jj_go C 3 rfl ?_
        refine jj_top (nI_1 lv) ?_
        refine jj_go C 3 rfl ?_
        refine jj_if C rfl (fun z => absurd ((nI_eq (a := lv + 1) (b := 0) (by omega) (by decide)).mp z) (by omega)) (fun _ => ?_)
        exact back (lv + 1) (by omega) hG
      · have g : ¬ c = 40 := fun q => z (by rw [q]; rfl)
        rw [if_neg g] at hG
        refine jj_go C 2 rfl ?_
        refine jj_if C rfl (fun z2 => ?_) (fun z2 => ?_)
        · have g2 := (nI_eq (a := c) (b := 41) (by omega) (by decide)).mp z2
          rw [if_pos g2] at hG
          by_cases h0 : lv = 0
          · rw [if_pos h0] at hG
            cases hG
          rw [if_neg h0] at hG
          refine jj_go C 3 rfl ?_
          refine jj_top (show nI lv - 1 = nI (lv - 1) from pk_sub (b := 1) (by omega)) ?_
          refine jj_go C 3 rfl ?_
          by_cases h1 : lv = 1
          · rw [if_pos h1] at hG
            cases hG
            rw [h1]
            refine jj_if C rfl (fun _ => ?_) (fun z => absurd rfl z)
            refine jj_go C 1 rfl ?_
            exact jj_iret C rfl rfl rfl (Nat.le_of_ble_eq_true rfl) (Nat.le_of_ble_eq_true rfl) ⟨rfl, rfl⟩
          · rw [if_neg h1] at hG
            refine jj_if C rfl (fun z => absurd ((nI_eq (a := lv - 1) (b := 0) (by omega) (by decide)).mp z) (by omega)) (fun _ => ?_)
            exact back (lv - 1) (by omega) hG
        · have g2 : ¬ c = 41 := fun q => z2 (by rw [q]; rfl)
          rw [if_neg g2] at hG
          refine jj_go C 3 rfl ?_
          by_cases h0 : lv = 0
          · rw [if_pos h0] at hG
            cases hG
            rw [h0]
            refine jj_if C rfl (fun _ => ?_) (fun z => absurd rfl z)
            refine jj_go C 1 rfl ?_
            exact jj_iret C rfl rfl rfl (Nat.le_of_ble_eq_true rfl) (Nat.le_of_ble_eq_true rfl) ⟨rfl, rfl⟩
          · rw [if_neg h0] at hG
            refine jj_if C rfl (fun z => absurd ((nI_eq (a := lv) (b := 0) (by omega) (by decide)).mp z) h0) (fun _ => ?_)
            exact back lv (by omega) hG
  refine jj_go C 3 rfl ?_
  refine jj_callV C rfl ml_MO_83 wd_988 hy rfl se_MO_MO_get1 (rr_get1 (r := 31) (x := nI p0) hR (by decide)) (rest := []) rfl rfl ⟨Nat.le_of_ble_eq_true rfl, Nat.le_of_ble_eq_true rfl⟩ (Nat.le_of_ble_eq_true rfl) (Nat.le_of_ble_eq_true rfl) (Nat.le_of_ble_eq_true rfl) ?_
  rintro q9 h9 ⟨rfl, hh9⟩
  rw [hh9]
  rw [jr_g_n (by omega), hc0]
  refine jj_go C 1 rfl ?_
  refine jj_if C rfl (fun _ => ?_) (fun z => absurd rfl z)
  refine jj_go C 9 rfl ?_
  exact loop 60 p0 0 0 nI_0.symm (Nat.le_refl _) (by omega) (by omega) hG
theorem rr_partner_b {p0 r : Nat} (hR : RR aC h y ad rh sg mu io) (hp0 : p0 ≤ 60) (hc0 : (rh 31).getD p0 0 = 41) (hG : px_pb (rh 31) 60 (p0 + 1) 0 = some r) : jj_Ct l D aC base yn_MO_partner yb_MO_partner 7 (some .int) 1 0 0 [.ref y, .int (nI p0)] h (fun q h' => q = some (.int (nI r)) ∧ h' = h) := by
  obtain ⟨hlen, hch⟩ := hR.len (r := 31) (by decide)
  refine jj_start (tb := tb_MO_partner) (by decide) tg_MO_partner (Nat.le_of_ble_eq_true rfl) ?_
  intro p e s m args below meth cc C
  have hy := hR.oy
  have loop : ∀ (k q lv : Nat) (v : Int32), v = nI (60 - k) → k ≤ 60 → q ≤ 100 → lv + k ≤ 150 → px_pb (rh 31) k (q + 1) lv = some r → jj_J p l e (jj_rm 1 0 0) s m args below meth cc D base 7 (MQ below (jj_Q D base (fun q h' => q = some (.int (nI r)) ∧ h' = h)) args s 0 0 (jj_A base)) 26 [(0, .ref y), (1, .int (nI p0)), (2, .int (-1)), (3, .int (-(nI lv))), (4, .int (nI q)), (5, .int v)] [] h 0 0 := by
    intro k
    induction k with
    | zero =>
      intro q lv v hv hk hq hl hG
      cases hG
    | succ k ih =>
      intro q lv v hv hk hq hl hG
      have hc := hch q
      have hG : (if (rh 31).getD q 0 = 41 then px_pb (rh 31) k q (lv + 1) else if (rh 31).getD q 0 = 40 then (if lv = 0 then none else if lv = 1 then some q else px_pb (rh 31) k q (lv - 1)) else if lv = 0 then some q else px_pb (rh 31) k q lv) = some r := hG
      refine jj_go C 2 rfl ?_
      refine jj_if C rfl (fun z => absurd z (by rw [hv]; exact nI_ge (b := 60) (by omega) (by decide))) (fun _ => ?_)
      refine jj_go C 3 rfl ?_
      refine jj_callV C rfl ml_MO_83 wd_988 hy rfl se_MO_MO_get1 (rr_get1 (r := 31) (x := nI q) hR (by decide)) (rest := []) rfl rfl ⟨Nat.le_of_ble_eq_true rfl, Nat.le_of_ble_eq_true rfl⟩ (Nat.le_of_ble_eq_true rfl) (Nat.le_of_ble_eq_true rfl) (Nat.le_of_ble_eq_true rfl) ?_
      rintro q9 h9 ⟨rfl, hh9⟩
      rw [hh9]
      rw [jr_g_n (by omega)]
      have back : ∀ lv', lv' + k ≤ 150 → px_pb (rh 31) k q lv' = some r → jj_J p l e (jj_rm 1 0 0) s m args below meth cc D base 7 (MQ below (jj_Q D base (fun q h' => q = some (.int (nI r)) ∧ h' = h)) args s 0 0 (jj_A base)) 78 [(0, .ref y), (1, .int (nI p0)), (2, .int (-1)), (3, .int (-(nI lv'))), (4, .int (nI q)), (5, .int v), (6, .int (nI ((rh 31).getD q 0)))] [] h 0 0 := by
        intro lv' hl' hG'
        cases q with
        | zero =>
          cases k with
          | zero => cases hG'
          | succ k => cases hG'
        | succ q =>
          refine jj_go C 3 rfl ?_
          refine jj_top (nI_m1 (j := q)) ?_
          refine jj_go C 3 rfl ?_
          refine jj_less (lc' := [(0, .ref y), (1, .int (nI p0)), (2, .int (-1)), (3, .int (-(nI lv'))), (4, .int (nI q)), (5, .int (v + 1))]) (fun q hq => List.mem_append_left [_] hq) (Nat.le_refl _) (Nat.le_refl _) ?_
          exact ih q lv' (v + 1) (by rw [hv, nI_1]; congr 1; omega) (by omega) (by omega) hl' hG'
      generalize (rh 31).getD q 0 = c at hG hc back ⊢
      refine jj_go C 3 rfl ?_
      refine jj_if C rfl (fun z => ?_) (fun z => ?_)
      · have g := (nI_eq (a := c) (b := 40) (by omega) (by decide)).mp z
        rw [if_neg (by omega), if_pos g] at hG
        by_cases h0 : lv = 0
        · rw [if_pos h0] at hG
          cases hG
        rw [if_neg h0] at hG
        refine jj_go C 3 rfl ?_
        refine jj_top (show -(nI lv) + 1 = -(nI (lv - 1)) by rw [← nN_p (m := lv - 1), show lv - 1 + 1 = lv by omega]) ?_
        refine jj_go C 3 rfl ?_
        by_cases h1 : lv = 1
        · rw [if_pos h1] at hG
          cases hG
          rw [h1]
          refine jj_if C rfl (fun _ => ?_) (fun z => absurd (by decide) z)
          refine jj_go C 1 rfl ?_
          exact jj_iret C rfl rfl rfl (Nat.le_of_ble_eq_true rfl) (Nat.le_of_ble_eq_true rfl) ⟨rfl, rfl⟩
        · rw [if_neg h1] at hG
          refine jj_if C rfl (fun z => absurd ((nN_0 (lv - 1) (by omega)).mp z) (by omega)) (fun _ => ?_)
          exact back (lv - 1) (by omega) hG
      · have g : ¬ c = 40 := fun q => z (by rw [q]; rfl)
        refine jj_go C 2 rfl ?_
        refine jj_if C rfl (fun z2 => ?_) (fun z2 => ?_)
        · have g2 := (nI_eq (a := c) (b := 41) (by omega) (by decide)).mp z2
          rw [if_pos g2] at hG
          refine jj_go C 3 rfl ?_
          refine jj_top (nN_s (m := lv)) ?_
          refine jj_go C 3 rfl ?_
          refine jj_if C rfl (fun z => absurd ((nN_0 (lv + 1) (by omega)).mp z) (by omega)) (fun _ => ?_)
          exact back (lv + 1) (by omega) hG
        · have g2 : ¬ c = 41 := fun q => z2 (by rw [q]; rfl)
          rw [if_neg g2, if_neg g] at hG
          refine jj_go C 3 rfl ?_
          by_cases h0 : lv = 0
          · rw [if_pos h0] at hG
            cases hG
            rw [h0]
            refine jj_if C rfl (fun _ => ?_) (fun z => absurd (by decide) z)
            refine jj_go C 1 rfl ?_
            exact jj_iret C rfl rfl rfl (Nat.le_of_ble_eq_true rfl) (Nat.le_of_ble_eq_true rfl) ⟨rfl, rfl⟩
          · rw [if_neg h0] at hG
            refine jj_if C rfl (fun z => absurd ((nN_0 lv (by omega)).mp z) h0) (fun _ => ?_)
            exact back lv (by omega) hG
  refine jj_go C 3 rfl ?_
  refine jj_callV C rfl ml_MO_83 wd_988 hy rfl se_MO_MO_get1 (rr_get1 (r := 31) (x := nI p0) hR (by decide)) (rest := []) rfl rfl ⟨Nat.le_of_ble_eq_true rfl, Nat.le_of_ble_eq_true rfl⟩ (Nat.le_of_ble_eq_true rfl) (Nat.le_of_ble_eq_true rfl) (Nat.le_of_ble_eq_true rfl) ?_
  rintro q9 h9 ⟨rfl, hh9⟩
  rw [hh9]
  rw [jr_g_n (by omega), hc0]
  refine jj_go C 1 rfl ?_
  refine jj_if C rfl (fun z => absurd z (by decide)) (fun _ => ?_)
  refine jj_go C 8 rfl ?_
  exact loop 60 p0 0 0 nI_0.symm (Nat.le_refl _) (by omega) (by omega) hG
theorem rr_contains {p0 sc0 : Nat} {s0 rest : List Nat} {G : Bool} (hR : RR aC h y ad rh sg mu io) (hsc : sc0 < 128) (hs41 : sc0 ≠ 41) (hs40 : sc0 ≠ 40) (he : (rh 31).drop p0 = s0 ++ rest) (hb : qs_b s0 0) (hp0 : p0 + s0.length ≤ 60) (hG : qs_c sc0 s0 0 false = G) : jj_Ct l D aC base yn_MO_contains yb_MO_contains 8 (some .boolean) 1 0 0 [.ref y, .int (nI p0), .int (nI (p0 + s0.length)), .int (nI sc0)] h (fun q h' => q = some (.int (jb_I G)) ∧ h' = h) := by
  obtain ⟨hlen, hch⟩ := hR.len (r := 31) (by decide)
  refine jj_start (tb := tb_MO_contains) (by decide) tg_MO_contains (Nat.le_of_ble_eq_true rfl) ?_
  intro p e s m args below meth cc C
  have hy := hR.oy
  generalize hT : p0 + s0.length = to at hp0
  have loop : ∀ (s1 : List Nat) (k lv : Nat) (b : Bool), (rh 31).drop k = s1 ++ rest → k + s1.length = to → qs_b s1 lv → lv ≤ k → qs_c sc0 s1 lv b = G → jj_J p l e (jj_rm 1 0 0) s m args below meth cc D base 8 (MQ below (jj_Q D base (fun q h' => q = some (.int (jb_I G)) ∧ h' = h)) args s 0 0 (jj_A base)) 9 [(0, .ref y), (1, .int (nI p0)), (2, .int (nI to)), (3, .int (nI sc0)), (4, .int (nI lv)), (5, .int (jb_I b)), (6, .int (nI k))] [] h 0 0 := by
    intro s1
    induction s1 with
    | nil =>
      intro k lv b e1 hk hb hl hG
      have hk : k = to := hk
      subst hk
      have hG : b = G := hG
      refine jj_go C 2 rfl ?_
      refine jj_if C rfl (fun _ => ?_) (fun z => absurd (nI_le (Nat.le_refl _) (by omega)) z)
      refine jj_go C 1 rfl ?_
      exact jj_iret C rfl rfl jb_nar (Nat.le_of_ble_eq_true rfl) (Nat.le_of_ble_eq_true rfl) ⟨by rw [hG], rfl⟩
    | cons c s1 ih =>
      intro k lv b e1 hk hb hl hG
      obtain ⟨x1, x2, x3⟩ := qd_cons e1
      have hk' : k + 1 + s1.length = to := by
        have : (c :: s1).length = s1.length + 1 := rfl
        omega
      have hc := hch k
      rw [x1] at hc
      rw [qs_c_s] at hG
      rw [qs_b_s] at hb
      refine jj_go C 2 rfl ?_
      refine jj_if C rfl (fun z => absurd z (nI_ge (by omega) (by omega))) (fun _ => ?_)
      refine jj_go C 3 rfl ?_
      refine jj_callV C rfl ml_MO_83 wd_988 hy rfl se_MO_MO_get1 (rr_get1 (r := 31) (x := nI k) hR (by decide)) (rest := []) rfl rfl ⟨Nat.le_of_ble_eq_true rfl, Nat.le_of_ble_eq_true rfl⟩ (Nat.le_of_ble_eq_true rfl) (Nat.le_of_ble_eq_true rfl) (Nat.le_of_ble_eq_true rfl) ?_
      rintro q9 h9 ⟨rfl, hh9⟩
      rw [hh9]
      rw [jr_g_n (by omega), x1]
      have last : ∀ (lv' : Nat) (b' : Bool), lv' ≤ k + 1 → qs_b s1 lv' → qs_c sc0 s1 lv' b' = G → jj_J p l e (jj_rm 1 0 0) s m args below meth cc D base 8 (MQ below (jj_Q D base (fun q h' => q = some (.int (jb_I G)) ∧ h' = h)) args s 0 0 (jj_A base)) 78 [(0, .ref y), (1, .int (nI p0)), (2, .int (nI to)), (3, .int (nI sc0)), (4, .int (nI lv')), (5, .int (jb_I b)), (6, .int (nI k)), (7, .int (nI c))] [.int (jb_I b')] h 0 0 := by
        intro lv' b' hl' hb' hG'
        refine jj_go C 3 rfl ?_
        refine jj_less (lc' := [(0, .ref y), (1, .int (nI p0)), (2, .int (nI to)), (3, .int (nI sc0)), (4, .int (nI lv')), (5, .int (jb_I b')), (6, .int (nI k + 1))]) (fun q hq => List.mem_append_left [_] hq) (Nat.le_refl _) (Nat.le_refl _) ?_
        rw [nI_1]
        exact ih (k + 1) lv' b' x2 hk' hb' hl' hG'
      have fin : ∀ (lv' : Nat), lv' ≤ k + 1 → qs_b s1 lv' → qs_c sc0 s1 lv' (b || (decide (lv' = 0) && c == sc0)) = G → jj_J p l e (jj_rm 1 0 0) s m args below meth cc D base 8 (MQ below (jj_Q D base (fun q h' => q = some (.int (jb_I G)) ∧ h' = h)) args s 0 0 (jj_A base)) 55 [(0, .ref y), (1, .int (nI p0)), (2, .int (nI to)), (3, .int (nI sc0)), (4, .int (nI lv)), (5, .int (jb_I b)), (6, .int (nI k)), (7, .int (nI c))] [.int (nI lv')] h 0 0 := by
        intro lv' hl' hb' hG'
        refine jj_go C 2 rfl ?_
        cases b with
        | true =>
          refine jj_if C rfl (fun z => absurd z (by decide)) (fun _ => ?_)
          refine jj_go C 2 rfl ?_
          exact last lv' true hl' hb' hG'
        | false =>
          refine jj_if C rfl (fun _ => ?_) (fun z => absurd rfl z)
          refine jj_go C 1 rfl ?_
          refine jj_if C rfl (fun z => ?_) (fun z => ?_)
          · have g := (nI_eq (a := lv') (b := 0) (by omega) (by decide)).mp z
            rw [decide_eq_true g, Bool.true_and, Bool.false_or] at hG'
            refine jj_go C 2 rfl ?_
            refine jj_if C rfl (fun z2 => ?_) (fun z2 => ?_)
            · have g2 := (nI_eq (a := c) (b := sc0) (by omega) (by omega)).mp z2
              rw [beq_iff_eq.mpr g2] at hG'
              refine jj_go C 2 rfl ?_
              exact last lv' true hl' hb' hG'
            · have g2 : ¬ c = sc0 := fun q => z2 (by rw [q])
              rw [beq_eq_false_iff_ne.mpr g2] at hG'
              refine jj_go C 1 rfl ?_
              exact last lv' false hl' hb' hG'
          · have g : ¬ lv' = 0 := fun q => z (by rw [q]; rfl)
            rw [decide_eq_false g, Bool.false_and, Bool.false_or] at hG'
            refine jj_go C 1 rfl ?_
            exact last lv' false hl' hb' hG'
      refine jj_go C 3 rfl ?_
      refine jj_if C rfl (fun z => ?_) (fun z => ?_)
      · have g := (nI_eq (a := c) (b := 40) (by omega) (by decide)).mp z
        rw [if_pos g] at hG hb
        refine jj_go C 3 rfl ?_
        refine jj_top (nI_1 lv) ?_
        refine jj_go C 1 rfl ?_
        refine fin (lv + 1) (by omega) hb ?_
        rw [decide_eq_false (by omega), Bool.false_and, Bool.or_false]
        exact hG
      · have g : ¬ c = 40 := fun q => z (by rw [q]; rfl)
        rw [if_neg g] at hG hb
        refine jj_go C 2 rfl ?_
        refine jj_if C rfl (fun z2 => ?_) (fun z2 => ?_)
        · have g2 := (nI_eq (a := c) (b := 41) (by omega) (by decide)).mp z2
          rw [if_pos g2] at hG hb
          refine jj_go C 3 rfl ?_
          refine jj_top (show nI lv - 1 = nI (lv - 1) from pk_sub (b := 1) hb.1) ?_
          refine jj_go C 1 rfl ?_
          refine fin (lv - 1) (by omega) hb.2 ?_
          rw [beq_eq_false_iff_ne.mpr (show c ≠ sc0 by omega), Bool.and_false, Bool.or_false]
          exact hG
        · have g2 : ¬ c = 41 := fun q => z2 (by rw [q]; rfl)
          rw [if_neg g2] at hG hb
          refine jj_go C 1 rfl ?_
          exact fin lv (by omega) hb hG
  refine jj_go C 6 rfl ?_
  exact loop s0 p0 0 false he hT hb (Nat.zero_le _) hG
theorem rr_amongSeveral {p0 q0 c0 : Nat} (hR : RR aC h y ad rh sg mu io) (hp0 : p0 ≤ 60) (hq0 : q0 ≤ 60) (hc0 : jr_g (rh 31) (nI p0 - 1) = c0) (h33 : c0 ≠ 33) (hc128 : c0 < 128) : jj_Ct l D aC base yn_MO_amongSeveral yb_MO_amongSeveral 4 (some .boolean) 1 0 0 [.ref y, .int (nI p0), .int (nI q0)] h (fun q h' => q = some (.int (jb_I (c0 == 38 || (rh 31).getD (q0 + 1) 0 == 38))) ∧ h' = h) := by
  obtain ⟨hlen, hch⟩ := hR.len (r := 31) (by decide)
  have hc := hch (q0 + 1)
  refine jj_start (tb := tb_MO_amongSeveral) (by decide) tg_MO_amongSeveral (Nat.le_of_ble_eq_true rfl) ?_
  intro p e s m args below meth cc C
  have hy := hR.oy
  refine jj_go C 7 rfl ?_
  refine jj_callV C rfl ml_MO_83 wd_988 hy rfl se_MO_MO_get1 (rr_get1 (r := 31) (x := nI p0 - 1) hR (by decide)) (rest := []) rfl rfl ⟨Nat.le_of_ble_eq_true rfl, Nat.le_of_ble_eq_true rfl⟩ (Nat.le_of_ble_eq_true rfl) (Nat.le_of_ble_eq_true rfl) (Nat.le_of_ble_eq_true rfl) ?_
  rintro q9 h9 ⟨rfl, hh9⟩
  rw [hh9]
  rw [hc0]
  refine jj_go C 1 rfl ?_
  refine jj_if C rfl (fun z => absurd ((nI_eq (a := c0) (b := 33) (by omega) (by decide)).mp z) h33) (fun _ => ?_)
  refine jj_go C 3 rfl ?_
  refine jj_callV C rfl ml_MO_83 wd_988 hy rfl se_MO_MO_get1 (rr_get1 (r := 31) (x := nI p0 - 1) hR (by decide)) (rest := []) rfl rfl ⟨Nat.le_of_ble_eq_true rfl, Nat.le_of_ble_eq_true rfl⟩ (Nat.le_of_ble_eq_true rfl) (Nat.le_of_ble_eq_true rfl) (Nat.le_of_ble_eq_true rfl) ?_
  rintro q9 h9 ⟨rfl, hh9⟩
  rw [hh9]
  rw [hc0]
  refine jj_go C 1 rfl ?_
  refine jj_if C rfl (fun z => ?_) (fun z => ?_)
  · have g := (nI_eq (a := c0) (b := 38) (by omega) (by decide)).mp z
    refine jj_go C 2 rfl ?_
    exact jj_iret C rfl rfl rfl (Nat.le_of_ble_eq_true rfl) (Nat.le_of_ble_eq_true rfl) ⟨by rw [g]; rfl, rfl⟩
  · have g : ¬ c0 = 38 := fun q => z (by rw [q]; rfl)
    refine jj_go C 5 rfl ?_
    refine jj_top (nI_1 q0) ?_
    refine jj_callV C rfl ml_MO_83 wd_988 hy rfl se_MO_MO_get1 (rr_get1 (r := 31) (x := nI (q0 + 1)) hR (by decide)) (rest := []) rfl rfl ⟨Nat.le_of_ble_eq_true rfl, Nat.le_of_ble_eq_true rfl⟩ (Nat.le_of_ble_eq_true rfl) (Nat.le_of_ble_eq_true rfl) (Nat.le_of_ble_eq_true rfl) ?_
    rintro q9 h9 ⟨rfl, hh9⟩
    rw [hh9]
    rw [jr_g_n (by omega)]
    generalize (rh 31).getD (q0 + 1) 0 = c1 at hc ⊢
    refine jj_go C 1 rfl ?_
    refine jj_if C rfl (fun z2 => ?_) (fun z2 => ?_)
    · have g2 := (nI_eq (a := c1) (b := 38) (by omega) (by decide)).mp z2
      refine jj_go C 2 rfl ?_
      exact jj_iret C rfl rfl rfl (Nat.le_of_ble_eq_true rfl) (Nat.le_of_ble_eq_true rfl) ⟨by rw [g2]; simp [jb_I], rfl⟩
    · have g2 : ¬ c1 = 38 := fun q => z2 (by rw [q]; rfl)
      refine jj_go C 1 rfl ?_
      exact jj_iret C rfl rfl rfl (Nat.le_of_ble_eq_true rfl) (Nat.le_of_ble_eq_true rfl) ⟨by rw [beq_eq_false_iff_ne.mpr g, beq_eq_false_iff_ne.mpr g2]; rfl, rfl⟩
theorem rr_last {u : List Nat} (hR : RR aC h y ad rh sg mu io) (hu : rh 32 = u) : jj_Ct l D aC base yn_MO_last yb_MO_last 1 (some .char) 1 0 0 [.ref y] h (fun q h' => q = some (.int (nI (u.getLastD 0))) ∧ h' = h) := by
  obtain ⟨hlen, hch⟩ := hR.len (r := 32) (by decide)
  have key : jr_g (rh 32) (nI (rh 32).length - 1) = u.getLastD 0 := by
    rw [hu]
    rw [hu] at hlen
    cases hl : u.length with
    | zero =>
      rw [List.length_eq_zero_iff.mp hl]
      rfl
    | succ n =>
      rw [show nI (n + 1) - 1 = nI n from (pk_sub (a := n + 1) (b := 1) (by omega)), jr_g_n (by omega), List.getLastD_eq_getLast?, List.getLast?_eq_getElem?, List.getD_eq_getElem?_getD, hl]
      rfl
  refine jj_start (tb := tb_MO_last) (by decide) tg_MO_last (Nat.le_of_ble_eq_true rfl) ?_
  intro p e s m args below meth cc C
  obtain ⟨hy, f0, f1, hne, L, S, g0, g1, hRR⟩ := hR.oT
  have r1 := (hRR 32 (by decide)).1
  refine jj_go C 3 rfl ?_
  refine jj_getf C rfl fl_MO_13 hy f1 ?_
  refine jj_go C 1 rfl ?_
  refine jj_iald C (j := 32) rfl g1 rfl (by decide) (by decide) ?_
  refine jj_top r1 ?_
  refine jj_go C 2 rfl ?_
  refine jj_callV C rfl ml_MO_83 wd_988 hy rfl se_MO_MO_get1 (rr_get1 (r := 32) (x := nI (rh 32).length - 1) hR (by decide)) (rest := []) rfl rfl ⟨Nat.le_of_ble_eq_true rfl, Nat.le_of_ble_eq_true rfl⟩ (Nat.le_of_ble_eq_true rfl) (Nat.le_of_ble_eq_true rfl) (Nat.le_of_ble_eq_true rfl) ?_
  rintro q9 h9 ⟨rfl, hh9⟩
  rw [hh9]
  rw [key]
  rw [hu] at hch
  exact jj_iret C rfl rfl (congrArg Value.int (ky_char _ (qd_last_lt hch))) (Nat.le_of_ble_eq_true rfl) (Nat.le_of_ble_eq_true rfl) ⟨rfl, rfl⟩
theorem rr_needed {p0 c0 j k0 : Nat} {s0 rest : List Nat} {f : Nat → Nat → List Nat} {A : (Nat → Option Int32) → Nat} {G : Bool} (hR : RR aC h y ad rh sg mu io) (he : (rh 31).drop p0 = 40 :: (s0 ++ (41 :: rest))) (hQ : QQ 2 s0 f j k0 A) (hc0 : jr_g (rh 31) (nI p0 - 1) = c0) (hc128 : c0 < 128) (hG : qq_nd c0 j (rest.headD 0) = G) : jj_Ct l D aC base yn_MO_needed yb_MO_needed 7 (some .boolean) 2 0 0 [.ref y, .int (nI p0)] h (fun q h' => q = some (.int (jb_I G)) ∧ h' = h) := by
  obtain ⟨hlen, hch⟩ := hR.len (r := 31) (by decide)
  obtain ⟨x1, x2, x3⟩ := qd_cons he
  have x4 := qd_app x2
  obtain ⟨x5, x6, x7⟩ := qd_cons x4
  have hpair := (hQ.pair he (n := 60) (by omega)).1
  have hrest : (rh 31).getD (p0 + 1 + s0.length + 1) 0 = rest.headD 0 := by rw [← qd_hd, x6]
  refine jj_start (tb := tb_MO_needed) (by decide) tg_MO_needed (Nat.le_of_ble_eq_true rfl) ?_
  intro p e s m args below meth cc C
  have hy := hR.oy
  -- behind the pairs that go around the whole
  have fin : ∀ (s1 : List Nat) (f1 : Nat → Nat → List Nat) (k1 : Nat) (A1 : (Nat → Option Int32) → Nat) (fr : Nat) (r1 : List Nat), QQ 2 s1 f1 j k1 A1 → j = k1 → (rh 31).drop fr = s1 ++ r1 → fr + s1.length ≤ 60 → jj_J p l e (jj_rm 2 0 0) s m args below meth cc D base 7 (MQ below (jj_Q D base (fun q h' => q = some (.int (jb_I G)) ∧ h' = h)) args s 0 0 (jj_A base)) 46 [(0, .ref y), (1, .int (nI p0)), (2, .int (nI (p0 + 1 + s0.length))), (3, .int (nI fr)), (4, .int (nI (fr + s1.length)))] [] h 0 0 := by
    intro s1 f1 k1 A1 fr r1 hq hjk e1 hfr
    obtain ⟨o1, o2⟩ := hq.or_in
    obtain ⟨-, hbal⟩ := hq.jf
    have hlev := hq.lev.1
    subst hjk
    refine jj_go C 4 rfl ?_
    refine jj_callV C rfl ml_MO_196 wd_1104 hy rfl se_MO_MO_contains (rr_contains (sc0 := 124) hR (by decide) (by decide) (by decide) e1 hbal hfr o1) (rest := []) rfl rfl ⟨Nat.le_of_ble_eq_true rfl, Nat.le_of_ble_eq_true rfl⟩ (Nat.le_of_ble_eq_true rfl) (Nat.le_of_ble_eq_true rfl) (Nat.le_of_ble_eq_true rfl) ?_
    rintro q9 h9 ⟨rfl, hh9⟩
    rw [hh9]
    refine jj_go C 6 rfl ?_
    refine jj_callV C rfl ml_MO_83 wd_988 hy rfl se_MO_MO_get1 (rr_get1 (r := 31) (x := nI p0 - 1) hR (by decide)) (rest := []) rfl rfl ⟨Nat.le_of_ble_eq_true rfl, Nat.le_of_ble_eq_true rfl⟩ (Nat.le_of_ble_eq_true rfl) (Nat.le_of_ble_eq_true rfl) (Nat.le_of_ble_eq_true rfl) ?_
    rintro q9 h9 ⟨rfl, hh9⟩
    rw [hh9]
    rw [hc0]
    refine jj_go C 1 rfl ?_
    have rest2 : ∀ b6 : Bool, (c0 == 33) = b6 → jj_J p l e (jj_rm 2 0 0) s m args below meth cc D base 7 (MQ below (jj_Q D base (fun q h' => q = some (.int (jb_I G)) ∧ h' = h)) args s 0 0 (jj_A base)) 78 [(0, .ref y), (1, .int (nI p0)), (2, .int (nI (p0 + 1 + s0.length))), (3, .int (nI fr)), (4, .int (nI (fr + s1.length))), (5, .int (jb_I (j == 124))), (6, .int (jb_I b6))] [] h 0 0 := by
      intro b6 h6
      refine jj_go C 1 rfl ?_
      unfold qq_nd at hG
      cases hor : (j == 124) with
      | true =>
        have hj : j = 124 := by simpa using hor
        refine jj_if C rfl (fun z => absurd z (by decide)) (fun _ => ?_)
        refine jj_go C 1 rfl ?_
        cases b6 with
        | true =>
          have h33 : c0 = 33 := by simpa using h6
          refine jj_if C rfl (fun z => absurd z (by decide)) (fun _ => ?_)
          refine jj_go C 2 rfl ?_
          rw [if_pos h33] at hG
          exact jj_iret C rfl rfl rfl (Nat.le_of_ble_eq_true rfl) (Nat.le_of_ble_eq_true rfl) ⟨by rw [← hG, hj]; rfl, rfl⟩
        | false =>
          have h33 : c0 ≠ 33 := by simpa using h6
          rw [if_neg h33, hor, Bool.true_and, ← hrest] at hG
          refine jj_if C rfl (fun _ => ?_) (fun z => absurd rfl z)
          refine jj_go C 3 rfl ?_
          refine jj_callV C rfl ml_MO_200 wd_1108 hy rfl se_MO_MO_amongSeveral (rr_amongSeveral (p0 := p0) (q0 := p0 + 1 + s0.length) hR (by omega) (by omega) hc0 h33 hc128) (rest := []) rfl rfl ⟨Nat.le_of_ble_eq_true rfl, Nat.le_of_ble_eq_true rfl⟩ (Nat.le_of_ble_eq_true rfl) (Nat.le_of_ble_eq_true rfl) (Nat.le_of_ble_eq_true rfl) ?_
          rintro q9 h9 ⟨rfl, hh9⟩
          rw [hh9]
          rw [hG]
          cases G with
          | false =>
            refine jj_if C rfl (fun _ => ?_) (fun z => absurd rfl z)
            refine jj_go C 1 rfl ?_
            exact jj_iret C rfl rfl rfl (Nat.le_of_ble_eq_true rfl) (Nat.le_of_ble_eq_true rfl) ⟨rfl, rfl⟩
          | true =>
            refine jj_if C rfl (fun z => absurd z (by decide)) (fun _ => ?_)
            refine jj_go C 2 rfl ?_
            exact jj_iret C rfl rfl rfl (Nat.le_of_ble_eq_true rfl) (Nat.le_of_ble_eq_true rfl) ⟨rfl, rfl⟩
      | false =>
        have hj : j ≠ 124 := by simpa using hor
        refine jj_if C rfl (fun _ => ?_) (fun z => absurd rfl z)
        refine jj_go C 1 rfl ?_
        cases b6 with
        | true =>
          have h33 : c0 = 33 := by simpa using h6
          rw [if_pos h33] at hG
          refine jj_if C rfl (fun z => absurd z (by decide)) (fun _ => ?_)
          refine jj_go C 4 rfl ?_
          refine jj_callV C rfl ml_MO_196 wd_1104 hy rfl se_MO_MO_contains (rr_contains (sc0 := 38) hR (by decide) (by decide) (by decide) e1 hbal hfr (o2 hj)) (rest := []) rfl rfl ⟨Nat.le_of_ble_eq_true rfl, Nat.le_of_ble_eq_true rfl⟩ (Nat.le_of_ble_eq_true rfl) (Nat.le_of_ble_eq_true rfl) (Nat.le_of_ble_eq_true rfl) ?_
          rintro q9 h9 ⟨rfl, hh9⟩
          rw [hh9]
          rcases hlev with q | q | q
          · rw [q]
            refine jj_if C rfl (fun _ => ?_) (fun z => absurd rfl z)
            refine jj_go C 1 rfl ?_
            exact jj_iret C rfl rfl rfl (Nat.le_of_ble_eq_true rfl) (Nat.le_of_ble_eq_true rfl) ⟨by rw [← hG, q]; rfl, rfl⟩
          · rw [q]
            refine jj_if C rfl (fun z => absurd z (by decide)) (fun _ => ?_)
            refine jj_go C 2 rfl ?_
            exact jj_iret C rfl rfl rfl (Nat.le_of_ble_eq_true rfl) (Nat.le_of_ble_eq_true rfl) ⟨by rw [← hG, q]; rfl, rfl⟩
          · exact absurd q hj
        | false =>
          have h33 : c0 ≠ 33 := by simpa using h6
          rw [if_neg h33, hor, Bool.false_and] at hG
          refine jj_if C rfl (fun _ => ?_) (fun z => absurd rfl z)
          refine jj_go C 1 rfl ?_
          exact jj_iret C rfl rfl rfl (Nat.le_of_ble_eq_true rfl) (Nat.le_of_ble_eq_true rfl) ⟨by rw [← hG]; rfl, rfl⟩
    refine jj_if C rfl (fun z => ?_) (fun z => ?_)
    · have g := (nI_eq (a := c0) (b := 33) (by omega) (by decide)).mp z
      refine jj_go C 3 rfl ?_
      exact rest2 true (by rw [g]; rfl)
    · have g : ¬ c0 = 33 := fun q => z (by rw [q]; rfl)
      refine jj_go C 2 rfl ?_
      exact rest2 false (beq_eq_false_iff_ne.mpr g)
  have loop : ∀ (n : Nat) (s1 : List Nat) (f1 : Nat → Nat → List Nat) (k1 : Nat) (A1 : (Nat → Option Int32) → Nat) (fr : Nat) (r1 : List Nat), s1.length ≤ n → QQ 2 s1 f1 j k1 A1 → (rh 31).drop fr = s1 ++ (41 :: r1) → fr + s1.length ≤ 60 → jj_J p l e (jj_rm 2 0 0) s m args below meth cc D base 7 (MQ below (jj_Q D base (fun q h' => q = some (.int (jb_I G)) ∧ h' = h)) args s 0 0 (jj_A base)) 13 [(0, .ref y), (1, .int (nI p0)), (2, .int (nI (p0 + 1 + s0.length))), (3, .int (nI fr)), (4, .int (nI (fr + s1.length)))] [] h 0 0 := by
    intro n
    induction n with
    | zero =>
      intro s1 f1 k1 A1 fr r1 hn hq e1 hfr
      have := (hq.iq [] (by decide)).1
      omega
    | succ n ih =>
      intro s1 f1 k1 A1 fr r1 hn hq e1 hfr
      have hpos := (hq.iq [] (by decide)).1
      have hcf := hch fr
      refine jj_go C 3 rfl ?_
      refine jj_callV C rfl ml_MO_83 wd_988 hy rfl se_MO_MO_get1 (rr_get1 (r := 31) (x := nI fr) hR (by decide)) (rest := []) rfl rfl ⟨Nat.le_of_ble_eq_true rfl, Nat.le_of_ble_eq_true rfl⟩ (Nat.le_of_ble_eq_true rfl) (Nat.le_of_ble_eq_true rfl) (Nat.le_of_ble_eq_true rfl) ?_
      rintro q9 h9 ⟨rfl, hh9⟩
      rw [hh9]
      rw [jr_g_n (by omega)]
      refine jj_go C 1 rfl ?_
      rcases hq.inv with ⟨s2, f2, k2, A2, hs, hq2⟩ | ⟨hjk, hinv⟩
      · have e2 : (rh 31).drop fr = 40 :: (s2 ++ (41 :: (41 :: r1))) := by rw [e1, hs]; simp
        have hl : s1.length = s2.length + 2 := by rw [hs]; simp
        obtain ⟨y1, y2, y3⟩ := qd_cons e2
        have hp2 := (hq2.pair e2 (n := 60) (by omega)).1
        rw [y1]
        refine jj_if C rfl (fun _ => ?_) (fun z => absurd rfl z)
        refine jj_go C 2 rfl ?_
        refine jj_callV C rfl ml_MO_193 wd_1100 hy rfl se_MO_MO_partner (rr_partner_f (p0 := fr) hR (by omega) y1 hp2) (rest := []) rfl rfl ⟨Nat.le_of_ble_eq_true rfl, Nat.le_of_ble_eq_true rfl⟩ (Nat.le_of_ble_eq_true rfl) (Nat.le_of_ble_eq_true rfl) (Nat.le_of_ble_eq_true rfl) ?_
        rintro q9 h9 ⟨rfl, hh9⟩
        rw [hh9]
        refine jj_go C 3 rfl ?_
        refine jj_top (show nI (fr + s1.length) - 1 = nI (fr + 1 + s2.length) from (pk_sub (a := fr + s1.length) (b := 1) (by omega)).trans (by congr 1; omega)) ?_
        refine jj_if C rfl (fun _ => ?_) (fun z => absurd rfl z)
        have ew : nI (fr + s1.length) + (-1) = nI (fr + 1 + s2.length) := by
          rw [hl, show fr + (s2.length + 2) = (fr + 1 + s2.length) + 1 by omega]
          exact nI_m1
        refine jj_go C 3 rfl ?_
        rw [ew, nI_1]
        exact ih s2 f2 k2 A2 (fr + 1) (41 :: r1) (by omega) hq2 y2 (by omega)
      · by_cases h40 : (rh 31).getD fr 0 = 40
        · obtain ⟨r, a1, a2⟩ := hinv (rh 31) fr (41 :: r1) 60 e1 h40 (by omega)
          rw [h40]
          refine jj_if C rfl (fun _ => ?_) (fun z => absurd rfl z)
          refine jj_go C 2 rfl ?_
          refine jj_callV C rfl ml_MO_193 wd_1100 hy rfl se_MO_MO_partner (rr_partner_f (p0 := fr) hR (by omega) h40 a1) (rest := []) rfl rfl ⟨Nat.le_of_ble_eq_true rfl, Nat.le_of_ble_eq_true rfl⟩ (Nat.le_of_ble_eq_true rfl) (Nat.le_of_ble_eq_true rfl) (Nat.le_of_ble_eq_true rfl) ?_
          rintro q9 h9 ⟨rfl, hh9⟩
          rw [hh9]
          refine jj_go C 3 rfl ?_
          refine jj_top (show nI (fr + s1.length) - 1 = nI (fr + s1.length - 1) from pk_sub (a := fr + s1.length) (b := 1) (by omega)) ?_
          refine jj_if C rfl (fun z => absurd ((nI_eq (a := r) (b := fr + s1.length - 1) (by omega) (by omega)).mp z) (by omega)) (fun _ => ?_)
          exact fin s1 f1 k1 A1 fr (41 :: r1) hq hjk e1 hfr
        · refine jj_if C rfl (fun z => absurd ((nI_eq (a := (rh 31).getD fr 0) (b := 40) (by omega) (by decide)).mp z) h40) (fun _ => ?_)
          exact fin s1 f1 k1 A1 fr (41 :: r1) hq hjk e1 hfr
  refine jj_go C 2 rfl ?_
  refine jj_callV C rfl ml_MO_193 wd_1100 hy rfl se_MO_MO_partner (rr_partner_f (p0 := p0) hR (by omega) x1 hpair) (rest := []) rfl rfl ⟨Nat.le_of_ble_eq_true rfl, Nat.le_of_ble_eq_true rfl⟩ (Nat.le_of_ble_eq_true rfl) (Nat.le_of_ble_eq_true rfl) (Nat.le_of_ble_eq_true rfl) ?_
  rintro q9 h9 ⟨rfl, hh9⟩
  rw [hh9]
  refine jj_go C 4 rfl ?_
  refine jj_top (nI_1 p0) ?_
  refine jj_go C 3 rfl ?_
  exact loop 60 s0 f k0 A (p0 + 1) rest (by omega) hQ x2 (by omega)
end MPN
