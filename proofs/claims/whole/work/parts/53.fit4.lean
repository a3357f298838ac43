/-! The reference: matches -/
def px_pn (pa ro : Nat → Nat) (k : Nat) (g : Nat → Bool) (d : Nat) : Nat → Bool
  | 0 => decide (0 < d) && (pa 0 == 42 && g 0)
  | i + 1 => (decide (i + 1 < d) && (pa (i + 1) == 42 && g (i + 1))) || (decide (i < d) && (!(pa i == 42) && ((pa i == 63 || pa i == ro k) && g i)))
theorem px_dec_s {a d : Nat} : decide (a < d + 1) = (decide (a < d) || decide (a = d)) := by
  by_cases h1 : a < d
  · rw [decide_eq_true h1, decide_eq_true (by omega)]
    rfl
  · by_cases h2 : a = d
    · rw [decide_eq_false h1, decide_eq_true h2, decide_eq_true (by omega)]
      rfl
    · rw [decide_eq_false h1, decide_eq_false h2, decide_eq_false (by omega)]
      rfl
theorem px_pn_s {pa ro : Nat → Nat} {k : Nat} {g : Nat → Bool} {d : Nat} : ∀ j, px_pn pa ro k g (d + 1) j = (px_pn pa ro k g d j || ((decide (j = d) && (pa d == 42 && g d)) || (decide (j = d + 1) && (!(pa d == 42) && ((pa d == 63 || pa d == ro k) && g d)))))
  | 0 => by
    unfold px_pn
    rw [px_dec_s]
    by_cases h : 0 = d
    · subst h
      simp
    · rw [decide_eq_false h, decide_eq_false (show ¬ 0 = d + 1 by omega)]
      simp
  | i + 1 => by
    dsimp only [px_pn]
    rw [px_dec_s (a := i + 1), px_dec_s (a := i)]
    by_cases h : i + 1 = d
    · subst h
      rw [decide_eq_false (show ¬ i = i + 1 by omega), decide_eq_false (show ¬ i + 1 = i + 1 + 1 by omega), decide_eq_false (show ¬ i + 1 < i + 1 by omega)]
      cases (pa (i + 1) == 42 && g (i + 1)) <;> simp
    · by_cases h2 : i = d
      · subst h2
        rw [decide_eq_false h, decide_eq_true rfl, decide_eq_true rfl, decide_eq_false (show ¬ i < i by omega), decide_eq_false (show ¬ i + 1 < i by omega)]
        simp
      · rw [decide_eq_false h, decide_eq_false h2, decide_eq_false (show ¬ i + 1 = d + 1 by omega)]
        simp
theorem px_pn_m {pa ro : Nat → Nat} {k : Nat} {g : Nat → Bool} {m : Nat} : ∀ j, j ≤ m → px_pn pa ro k g m j = px_nx pa ro m k g j
  | 0, _ => rfl
  | i + 1, hi => by
    dsimp only [px_pn, px_nx]
    rw [decide_eq_true (show i < m by omega), Bool.true_and]
theorem px_pn_0 {pa ro : Nat → Nat} {k : Nat} {g : Nat → Bool} : ∀ j, px_pn pa ro k g 0 j = false
  | 0 => rfl
  | i + 1 => by
    dsimp only [px_pn]
    rw [decide_eq_false (Nat.not_lt_zero (i + 1)), decide_eq_false (Nat.not_lt_zero i)]
    rfl
section MMT
variable {l : Launch} {D : va_G} {aC : Nat → ClassId} {base : Nat} {h : jjHp} {y : Nat} {ad : Nat → Nat} {rh : Nat → List Nat} {sg : Nat → Nat → Int32} {mu : Nat → Int64} {io : Nat → Int32}
set_option maxHeartbeats 1000000 in
theorem rr_matches {r1 p0 r2 t0 m n : Nat} (hR : RR aC h y ad rh sg mu io) (hr1 : r1 < 34) (hr2 : r2 < 34) (hm6 : m ≤ 6) (hp0 : p0 ≤ 60) (ht0 : t0 ≤ 60) (hn6 : n ≤ 60) (h1a : ∀ i, i < m → pc_pt ((rh r1).getD (p0 + i) 0) = true) (h1e : pc_pt ((rh r1).getD (p0 + m) 0) = false) (h2a : ∀ i, i < n → pc_pt ((rh r2).getD (t0 + i) 0) = true) (h2e : pc_pt ((rh r2).getD (t0 + n) 0) = false) : jj_Ct l D aC base yn_MO_matches yb_MO_matches 11 (some .boolean) 2 0 0 [.ref y, .int (nI r1), .int (nI p0), .int (nI r2), .int (nI t0)] h (fun q h' => q = some (.int (jb_I (px_G (fun i => (rh r1).getD (p0 + i) 0) (fun i => (rh r2).getD (t0 + i) 0) m n))) ∧ h' = h) := by
  obtain ⟨hlen1, hch1⟩ := hR.len hr1
  obtain ⟨hlen2, hch2⟩ := hR.len hr2
  generalize hpa : (fun i => (rh r1).getD (p0 + i) 0) = pa
  generalize hro : (fun i => (rh r2).getD (t0 + i) 0) = ro
  have epa : ∀ i, (rh r1).getD (p0 + i) 0 = pa i := fun i => by rw [← hpa]
  have ero : ∀ i, (rh r2).getD (t0 + i) 0 = ro i := fun i => by rw [← hro]
  refine jj_start (tb := tb_MO_matches) (by decide) tg_MO_matches (Nat.le_of_ble_eq_true rfl) ?_
  intro p e s mi args below meth cc C
  have hy := hR.oy
  -- the places of the pattern, for the row's character d0
  have inner : ∀ (kk : Nat) (x v : Int32), v = nI (t0 + kk) → kk < n → (∀ (s8 : Int32), (∀ j, j ≤ m → bt s8 j = px_nx pa ro m kk (bt x) j) → jj_J p l e (jj_rm 2 0 0) s mi args below meth cc D base 11 (MQ below (jj_Q D base (fun q h' => q = some (.int (jb_I (px_G pa ro m n))) ∧ h' = h)) args s 0 0 (jj_A base)) 139 [(0, .ref y), (1, .int (nI r1)), (2, .int (nI p0)), (3, .int (nI r2)), (4, .int (nI t0)), (5, .int (nI m)), (6, .int x), (7, .int v), (8, .int s8)] [] h 0 0) → ∀ (k d : Nat) (w s8 : Int32), w = nI d → d + k = m → (∀ j, j < 8 → bt s8 j = px_pn pa ro kk (bt x) d j) → jj_J p l e (jj_rm 2 0 0) s mi args below meth cc D base 11 (MQ below (jj_Q D base (fun q h' => q = some (.int (jb_I (px_G pa ro m n))) ∧ h' = h)) args s 0 0 (jj_A base)) 58 [(0, .ref y), (1, .int (nI r1)), (2, .int (nI p0)), (3, .int (nI r2)), (4, .int (nI t0)), (5, .int (nI m)), (6, .int x), (7, .int v), (8, .int s8), (9, .int w)] [] h 0 0 := by
    intro kk x v hv hkn hend k
    induction k with
    | zero =>
      intro d w s8 hw hk hI
      have hd : d = m := by omega
      subst hd
      refine jj_go C 2 rfl ?_
      refine jj_if C rfl (fun _ => ?_) (fun z => absurd (by rw [hw]; exact nI_le (Nat.le_refl _) (by omega)) z)
      refine jj_less (lc' := [(0, .ref y), (1, .int (nI r1)), (2, .int (nI p0)), (3, .int (nI r2)), (4, .int (nI t0)), (5, .int (nI d)), (6, .int x), (7, .int v), (8, .int s8)]) (fun q hq => List.mem_append_left [_] hq) (Nat.le_refl _) (Nat.le_refl _) ?_
      exact hend s8 (fun j hj => by rw [hI j (by omega), px_pn_m j hj])
    | succ k ih =>
      intro d w s8 hw hk hI
      have hcd := hch1 (p0 + d)
      rw [epa] at hcd
      have next : ∀ (s9 : Int32) (v10 : Int32), (∀ j, j < 8 → bt s9 j = px_pn pa ro kk (bt x) (d + 1) j) → jj_J p l e (jj_rm 2 0 0) s mi args below meth cc D base 11 (MQ below (jj_Q D base (fun q h' => q = some (.int (jb_I (px_G pa ro m n))) ∧ h' = h)) args s 0 0 (jj_A base)) 133 [(0, .ref y), (1, .int (nI r1)), (2, .int (nI p0)), (3, .int (nI r2)), (4, .int (nI t0)), (5, .int (nI m)), (6, .int x), (7, .int v), (8, .int s9), (9, .int w), (10, .int v10)] [] h 0 0 := by
        intro s9 v10 h9
        refine jj_go C 2 rfl ?_
        refine jj_less (lc' := [(0, .ref y), (1, .int (nI r1)), (2, .int (nI p0)), (3, .int (nI r2)), (4, .int (nI t0)), (5, .int (nI m)), (6, .int x), (7, .int v), (8, .int s9), (9, .int (w + 1))]) (fun q hq => List.mem_append_left [_] hq) (Nat.le_refl _) (Nat.le_refl _) ?_
        exact ih (d + 1) (w + 1) s9 (by rw [hw, nI_1]) (by omega) h9
      refine jj_go C 2 rfl ?_
      refine jj_if C rfl (fun z => absurd z (by rw [hw]; exact nI_ge (by omega) (by omega))) (fun _ => ?_)
      subst hw
      refine jj_go C 5 rfl ?_
      refine jj_callV C rfl ml_MO_83 wd_988 hy rfl se_MO_MO_get1 (rr_get1 (x := nI p0 + nI d) hR hr1) (rest := []) rfl rfl ⟨Nat.le_of_ble_eq_true rfl, Nat.le_of_ble_eq_true rfl⟩ (Nat.le_of_ble_eq_true rfl) (Nat.le_of_ble_eq_true rfl) (Nat.le_of_ble_eq_true rfl) ?_
      rintro q9 h9 ⟨rfl, hh9⟩
      rw [hh9]
      have eg : jr_g (rh r1) (nI p0 + nI d) = pa d := by rw [nI_add, jr_g_n (by omega), epa]
      rw [eg]
      refine jj_go C 7 rfl ?_
      refine jj_if C rfl (fun z => ?_) (fun z => ?_)
      rotate_left
      · have hb : bt x d = false := by
          rw [Bool.eq_false_iff]
          exact fun q => z ((bt_test x (by omega)).mpr q)
        refine next s8 _ (fun j hj => ?_)
        rw [hI j hj, px_pn_s j, hb]
        simp
      have hb := (bt_test x (show d < 8 by omega)).mp z
      refine jj_go C 3 rfl ?_
      refine jj_if C rfl (fun z2 => ?_) (fun z2 => ?_)
      · have g := (nI_eq (a := pa d) (b := 42) (by omega) (by decide)).mp z2
        refine jj_go C 6 rfl ?_
        refine next _ _ (fun j hj => ?_)
        rw [bt_or, bt_shl (by omega) hj, hI j hj, px_pn_s j, hb, g]
        simp
      · have g : ¬ pa d = 42 := fun q => z2 (by rw [q]; rfl)
        have g' := beq_eq_false_iff_ne.mpr g
        have hit : (pa d == 63 || pa d == ro kk) = true → jj_J p l e (jj_rm 2 0 0) s mi args below meth cc D base 11 (MQ below (jj_Q D base (fun q h' => q = some (.int (jb_I (px_G pa ro m n))) ∧ h' = h)) args s 0 0 (jj_A base)) 122 [(0, .ref y), (1, .int (nI r1)), (2, .int (nI p0)), (3, .int (nI r2)), (4, .int (nI t0)), (5, .int (nI m)), (6, .int x), (7, .int v), (8, .int s8), (9, .int (nI d)), (10, .int (nI (pa d)))] [.int s8] h 0 0 := by
          intro hh
          refine jj_go C 6 rfl ?_
          refine next _ _ (fun j hj => ?_)
          rw [bt_or, bt_shl2 (by omega) hj, hI j hj, px_pn_s j, hb, g', hh]
          simp
        refine jj_go C 2 rfl ?_
        refine jj_if C rfl (fun z3 => ?_) (fun z3 => ?_)
        · have g3 := (nI_eq (a := pa d) (b := 63) (by omega) (by decide)).mp z3
          exact hit (by rw [g3]; rfl)
        · have g3 : ¬ pa d = 63 := fun q => z3 (by rw [q]; rfl)
          have hcr := hch2 (t0 + kk)
          rw [ero] at hcr
          subst hv
          refine jj_go C 4 rfl ?_
          refine jj_callV C rfl ml_MO_83 wd_988 hy rfl se_MO_MO_get1 (rr_get1 (x := nI (t0 + kk)) hR hr2) (rest := [.int (nI (pa d)), .int s8]) rfl rfl ⟨Nat.le_of_ble_eq_true rfl, Nat.le_of_ble_eq_true rfl⟩ (Nat.le_of_ble_eq_true rfl) (Nat.le_of_ble_eq_true rfl) (Nat.le_of_ble_eq_true rfl) ?_
          rintro q9 h9 ⟨rfl, hh9⟩
          rw [hh9]
          have eg2 : jr_g (rh r2) (nI (t0 + kk)) = ro kk := by rw [jr_g_n (by omega), ero]
          rw [eg2]
          refine jj_if C rfl (fun z4 => ?_) (fun z4 => ?_)
          · have g4 := (nI_eq (a := pa d) (b := ro kk) (by omega) (by omega)).mp z4
            exact hit (by rw [g4]; simp)
          · have g4 : ¬ pa d = ro kk := fun q => z4 (by rw [q])
            refine jj_go C 3 rfl ?_
            refine next _ _ (fun j hj => ?_)
            rw [bt_or, bt_0, hI j hj, px_pn_s j, hb, g', beq_eq_false_iff_ne.mpr g3, beq_eq_false_iff_ne.mpr g4]
            simp
  -- the row
  have row : ∀ (k kk : Nat) (x v : Int32), v = nI (t0 + kk) → kk + k = n → (∀ i, i ≤ m → bt x i = px_T pa ro m i kk) → jj_J p l e (jj_rm 2 0 0) s mi args below meth cc D base 11 (MQ below (jj_Q D base (fun q h' => q = some (.int (jb_I (px_G pa ro m n))) ∧ h' = h)) args s 0 0 (jj_A base)) 39 [(0, .ref y), (1, .int (nI r1)), (2, .int (nI p0)), (3, .int (nI r2)), (4, .int (nI t0)), (5, .int (nI m)), (6, .int x), (7, .int v)] [] h 0 0 := by
    intro k
    induction k with
    | zero =>
      intro kk x v hv hk hx
      have hd : kk = n := by omega
      subst hd
      have hcr := hch2 (t0 + kk)
      refine jj_go C 3 rfl ?_
      refine jj_callV C rfl ml_MO_83 wd_988 hy rfl se_MO_MO_get1 (rr_get1 (x := v) hR hr2) (rest := []) rfl rfl ⟨Nat.le_of_ble_eq_true rfl, Nat.le_of_ble_eq_true rfl⟩ (Nat.le_of_ble_eq_true rfl) (Nat.le_of_ble_eq_true rfl) (Nat.le_of_ble_eq_true rfl) ?_
      rintro q9 h9 ⟨rfl, hh9⟩
      rw [hh9]
      have eg2 : jr_g (rh r2) v = (rh r2).getD (t0 + kk) 0 := by rw [hv, jr_g_n (by omega)]
      rw [eg2]
      refine jj_callS C rfl ml_MO_136 wd_1160 (mo_isPart (c := (rh r2).getD (t0 + kk) 0) (by omega)) (rest := []) rfl rfl ⟨Nat.le_of_ble_eq_true rfl, Nat.le_of_ble_eq_true rfl⟩ (Nat.le_of_ble_eq_true rfl) (Nat.le_of_ble_eq_true rfl) (Nat.le_of_ble_eq_true rfl) ?_
      rintro q9 h9 ⟨rfl, hh9⟩
      rw [hh9]
      rw [h2e]
      refine jj_if C rfl (fun _ => ?_) (fun z => absurd rfl z)
      refine jj_go C 6 rfl ?_
      have hxm := hx m (Nat.le_refl _)
      rw [px_T_m] at hxm
      rw [← hxm]
      refine jj_if C rfl (fun z => ?_) (fun z => ?_)
      · rw [(bt_test x (show m < 8 by omega)).mp z]
        refine jj_go C 2 rfl ?_
        exact jj_iret C rfl rfl rfl (Nat.le_of_ble_eq_true rfl) (Nat.le_of_ble_eq_true rfl) ⟨rfl, rfl⟩
      · have hb : bt x m = false := by
          rw [Bool.eq_false_iff]
          exact fun q => z ((bt_test x (by omega)).mpr q)
        rw [hb]
        refine jj_go C 1 rfl ?_
        exact jj_iret C rfl rfl rfl (Nat.le_of_ble_eq_true rfl) (Nat.le_of_ble_eq_true rfl) ⟨rfl, rfl⟩
    | succ k ih =>
      intro kk x v hv hk hx
      have hcr := hch2 (t0 + kk)
      refine jj_go C 3 rfl ?_
      refine jj_callV C rfl ml_MO_83 wd_988 hy rfl se_MO_MO_get1 (rr_get1 (x := v) hR hr2) (rest := []) rfl rfl ⟨Nat.le_of_ble_eq_true rfl, Nat.le_of_ble_eq_true rfl⟩ (Nat.le_of_ble_eq_true rfl) (Nat.le_of_ble_eq_true rfl) (Nat.le_of_ble_eq_true rfl) ?_
      rintro q9 h9 ⟨rfl, hh9⟩
      rw [hh9]
      have eg2 : jr_g (rh r2) v = (rh r2).getD (t0 + kk) 0 := by rw [hv, jr_g_n (by omega)]
      rw [eg2]
      refine jj_callS C rfl ml_MO_136 wd_1160 (mo_isPart (c := (rh r2).getD (t0 + kk) 0) (by omega)) (rest := []) rfl rfl ⟨Nat.le_of_ble_eq_true rfl, Nat.le_of_ble_eq_true rfl⟩ (Nat.le_of_ble_eq_true rfl) (Nat.le_of_ble_eq_true rfl) (Nat.le_of_ble_eq_true rfl) ?_
      rintro q9 h9 ⟨rfl, hh9⟩
      rw [hh9]
      rw [h2a kk (by omega)]
      refine jj_if C rfl (fun z => absurd z (by decide)) (fun _ => ?_)
      refine jj_go C 4 rfl ?_
      refine inner kk x v hv (by omega) (fun s8 h8 => ?_) m 0 0 0 nI_0.symm (by omega) (fun j _ => by rw [bt_0, px_pn_0])
      refine jj_go C 5 rfl ?_
      refine jj_callV C rfl ml_MO_139 wd_1164 hy rfl se_MO_MO_spread (rr_spread (p0 := p0) (n := m) (x := s8) hR hr1 hm6 (by omega)) (rest := []) rfl rfl ⟨Nat.le_of_ble_eq_true rfl, Nat.le_of_ble_eq_true rfl⟩ (Nat.le_of_ble_eq_true rfl) (Nat.le_of_ble_eq_true rfl) (Nat.le_of_ble_eq_true rfl) ?_
      rintro q9 h9 ⟨⟨v9, rfl, hv9⟩, hh9⟩
      rw [hh9]
      refine jj_go C 3 rfl ?_
      refine jj_less (lc' := [(0, .ref y), (1, .int (nI r1)), (2, .int (nI p0)), (3, .int (nI r2)), (4, .int (nI t0)), (5, .int (nI m)), (6, .int v9), (7, .int (v + 1))]) (fun q hq => List.mem_append_left [_] hq) (Nat.le_refl _) (Nat.le_refl _) ?_
      refine ih (kk + 1) v9 (v + 1) (by rw [hv, nI_1]; rfl) (by omega) (fun i hi => ?_)
      rw [hv9 i hi, hpa, px_sp_cg i (fun j hj => h8 j (by omega))]
      exact px_T_s hx i hi
  -- the pattern's length
  have first : ∀ (k d : Nat) (v : Int32), v = nI d → d + k = m → jj_J p l e (jj_rm 2 0 0) s mi args below meth cc D base 11 (MQ below (jj_Q D base (fun q h' => q = some (.int (jb_I (px_G pa ro m n))) ∧ h' = h)) args s 0 0 (jj_A base)) 3 [(0, .ref y), (1, .int (nI r1)), (2, .int (nI p0)), (3, .int (nI r2)), (4, .int (nI t0)), (5, .int v)] [] h 0 0 := by
    intro k
    induction k with
    | zero =>
      intro d v hv hk
      have hd : d = m := by omega
      subst hd
      subst hv
      have hcd := hch1 (p0 + d)
      refine jj_go C 5 rfl ?_
      refine jj_callV C rfl ml_MO_83 wd_988 hy rfl se_MO_MO_get1 (rr_get1 (x := nI p0 + nI d) hR hr1) (rest := []) rfl rfl ⟨Nat.le_of_ble_eq_true rfl, Nat.le_of_ble_eq_true rfl⟩ (Nat.le_of_ble_eq_true rfl) (Nat.le_of_ble_eq_true rfl) (Nat.le_of_ble_eq_true rfl) ?_
      rintro q9 h9 ⟨rfl, hh9⟩
      rw [hh9]
      have eg : jr_g (rh r1) (nI p0 + nI d) = (rh r1).getD (p0 + d) 0 := by rw [nI_add, jr_g_n (by omega)]
      rw [eg]
      refine jj_callS C rfl ml_MO_136 wd_1160 (mo_isPart (c := (rh r1).getD (p0 + d) 0) (by omega)) (rest := []) rfl rfl ⟨Nat.le_of_ble_eq_true rfl, Nat.le_of_ble_eq_true rfl⟩ (Nat.le_of_ble_eq_true rfl) (Nat.le_of_ble_eq_true rfl) (Nat.le_of_ble_eq_true rfl) ?_
      rintro q9 h9 ⟨rfl, hh9⟩
      rw [hh9]
      rw [h1e]
      refine jj_if C rfl (fun _ => ?_) (fun z => absurd rfl z)
      refine jj_go C 5 rfl ?_
      refine jj_callV C rfl ml_MO_139 wd_1164 hy rfl se_MO_MO_spread (rr_spread (p0 := p0) (n := d) (x := 1) hR hr1 hm6 (by omega)) (rest := []) rfl rfl ⟨Nat.le_of_ble_eq_true rfl, Nat.le_of_ble_eq_true rfl⟩ (Nat.le_of_ble_eq_true rfl) (Nat.le_of_ble_eq_true rfl) (Nat.le_of_ble_eq_true rfl) ?_
      rintro q9 h9 ⟨⟨v9, rfl, hv9⟩, hh9⟩
      rw [hh9]
      refine jj_go C 3 rfl ?_
      refine row n 0 v9 _ rfl (by omega) (fun i hi => ?_)
      rw [hv9 i hi, hpa]
      exact px_T_0 (fun j hj => by rw [bt_1 (by omega)]; cases j <;> rfl) i hi
    | succ k ih =>
      intro d v hv hk
      subst hv
      have hcd := hch1 (p0 + d)
      refine jj_go C 5 rfl ?_
      refine jj_callV C rfl ml_MO_83 wd_988 hy rfl se_MO_MO_get1 (rr_get1 (x := nI p0 + nI d) hR hr1) (rest := []) rfl rfl ⟨Nat.le_of_ble_eq_true rfl, Nat.le_of_ble_eq_true rfl⟩ (Nat.le_of_ble_eq_true rfl) (Nat.le_of_ble_eq_true rfl) (Nat.le_of_ble_eq_true rfl) ?_
      rintro q9 h9 ⟨rfl, hh9⟩
      rw [hh9]
      have eg : jr_g (rh r1) (nI p0 + nI d) = (rh r1).getD (p0 + d) 0 := by rw [nI_add, jr_g_n (by omega)]
      rw [eg]
      refine jj_callS C rfl ml_MO_136 wd_1160 (mo_isPart (c := (rh r1).getD (p0 + d) 0) (by omega)) (rest := []) rfl rfl ⟨Nat.le_of_ble_eq_true rfl, Nat.le_of_ble_eq_true rfl⟩ (Nat.le_of_ble_eq_true rfl) (Nat.le_of_ble_eq_true rfl) (Nat.le_of_ble_eq_true rfl) ?_
      rintro q9 h9 ⟨rfl, hh9⟩
      rw [hh9]
      rw [h1a d (by omega)]
      refine jj_if C rfl (fun z => absurd z (by decide)) (fun _ => ?_)
      refine jj_go C 2 rfl ?_
      exact ih (d + 1) _ (nI_1 d) (by omega)
  refine jj_go C 2 rfl ?_
  exact first m 0 0 nI_0.symm (by omega)
end MMT
