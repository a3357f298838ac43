/-! The class's Pattern: reachedBehind, standsFor -/
theorem px_Gs_cg {c : Nat} {ro : Nat → Nat} {g g' : Nat → Bool} : ∀ j, (∀ i, i ≤ j → g i = g' i) → px_Gs c ro g j = px_Gs c ro g' j
  | 0, h => by
    unfold px_Gs
    rw [h 0 (Nat.le_refl _)]
  | j + 1, h => by
    unfold px_Gs
    rw [h (j + 1) (Nat.le_refl _), h j (Nat.le_succ _), px_Gs_cg j (fun i hi => h i (by omega))]
section FT
variable {l : Launch} {D : va_G} {aC : Nat → ClassId} {base : Nat} {h : jjHp} {tx txb : Nat} {t : List Nat}
theorem pt_reachedBehind {c s0 n : Nat} {x : Int32} (hs : kx_ST aC h tx txb t) (hc : c < 128) (hc42 : ¬ c = 42) (hn : n ≤ 6) (hl : s0 + n ≤ t.length) (hlen : t.length ≤ 60) : jj_Ct l D aC base yn_PT_reachedBehind yb_PT_reachedBehind 8 (some .int) 4 0 0 [.int (nI c), .int x, .ref tx, .int (nI s0), .int (nI (s0 + n))] h (fun r h' => (∃ v, r = some (.int v) ∧ ∀ j, j ≤ n → bt v j = px_Gs c (fun i => t.getD (s0 + i) 0) (bt x) j) ∧ h' = h) := by
  refine jj_start (tb := tb_PT_reachedBehind) (by decide) tg_PT_reachedBehind (Nat.le_of_ble_eq_true rfl) ?_
  intro p e s m args below meth cc C
  obtain ⟨fs, hrc⟩ := hs.recv
  have loop : ∀ (k d : Nat) (v nx : Int32), v = nI (s0 + d) → d + k = n → (∀ j, j < 8 → (j = 0 ∨ d < j) → bt nx j = false) → (∀ j, j < d → bt nx (j + 1) = ((c == 63 || c == t.getD (s0 + j) 0) && bt x j)) → jj_J p l e (jj_rm 4 0 0) s m args below meth cc D base 8 (MQ below (jj_Q D base (fun r h' => (∃ v, r = some (.int v) ∧ ∀ j, j ≤ n → bt v j = px_Gs c (fun i => t.getD (s0 + i) 0) (bt x) j) ∧ h' = h)) args s 0 0 (jj_A base)) 6 [(0, .int (nI c)), (1, .int x), (2, .ref tx), (3, .int (nI s0)), (4, .int (nI (s0 + n))), (5, .int nx), (6, .int v)] [] h 0 0 := by
    intro k
    induction k with
    | zero =>
      intro d v nx hv hk h1 h2
      have hd : d = n := by omega
      subst hd
      refine jj_go C 2 rfl ?_
      refine jj_if C rfl (fun _ => ?_) (fun z => absurd (by rw [hv]; exact nI_le (Nat.le_refl _) (by omega)) z)
      refine jj_go C 1 rfl ?_
      refine jj_iret C rfl rfl rfl (Nat.le_of_ble_eq_true rfl) (Nat.le_of_ble_eq_true rfl) ⟨⟨nx, rfl, fun j hj => ?_⟩, rfl⟩
      cases j with
      | zero => rw [h1 0 (by decide) (Or.inl rfl), px_Gs_0 hc42]
      | succ j => rw [h2 j (by omega), px_Gs_s hc42]
    | succ k ih =>
      intro d v nx hv hk h1 h2
      have hlt : s0 + d < t.length := by omega
      have hcd := hs.lt (s0 + d)
      have next : ∀ (nx' v7 : Int32), (∀ j, j < 8 → (j = 0 ∨ d + 1 < j) → bt nx' j = false) → (∀ j, j < d + 1 → bt nx' (j + 1) = ((c == 63 || c == t.getD (s0 + j) 0) && bt x j)) → jj_J p l e (jj_rm 4 0 0) s m args below meth cc D base 8 (MQ below (jj_Q D base (fun r h' => (∃ v, r = some (.int v) ∧ ∀ j, j ≤ n → bt v j = px_Gs c (fun i => t.getD (s0 + i) 0) (bt x) j) ∧ h' = h)) args s 0 0 (jj_A base)) 56 [(0, .int (nI c)), (1, .int x), (2, .ref tx), (3, .int (nI s0)), (4, .int (nI (s0 + n))), (5, .int nx'), (6, .int v), (7, .int v7)] [] h 0 0 := by
        intro nx' v7 a1 a2
        refine jj_go C 2 rfl ?_
        refine jj_less (lc' := [(0, .int (nI c)), (1, .int x), (2, .ref tx), (3, .int (nI s0)), (4, .int (nI (s0 + n))), (5, .int nx'), (6, .int (v + 1))]) (fun q hq => List.mem_append_left [_] hq) (Nat.le_refl _) (Nat.le_refl _) ?_
        exact ih (d + 1) (v + 1) nx' (by rw [hv, nI_1]; rfl) (by omega) a1 a2
      have miss : ∀ v7 : Int32, ((c == 63 || c == t.getD (s0 + d) 0) && bt x d) = false → jj_J p l e (jj_rm 4 0 0) s m args below meth cc D base 8 (MQ below (jj_Q D base (fun r h' => (∃ v, r = some (.int v) ∧ ∀ j, j ≤ n → bt v j = px_Gs c (fun i => t.getD (s0 + i) 0) (bt x) j) ∧ h' = h)) args s 0 0 (jj_A base)) 56 [(0, .int (nI c)), (1, .int x), (2, .ref tx), (3, .int (nI s0)), (4, .int (nI (s0 + n))), (5, .int nx), (6, .int v), (7, .int v7)] [] h 0 0 := by
        intro v7 hm
        refine next nx v7 (fun j a b => h1 j a (by omega)) (fun j hj => ?_)
        by_cases he : j = d
        · rw [he, hm]
          exact h1 (d + 1) (by omega) (Or.inr (by omega))
        · exact h2 j (by omega)
      have hit : ((c == 63 || c == t.getD (s0 + d) 0) && bt x d) = true → jj_J p l e (jj_rm 4 0 0) s m args below meth cc D base 8 (MQ below (jj_Q D base (fun r h' => (∃ v, r = some (.int v) ∧ ∀ j, j ≤ n → bt v j = px_Gs c (fun i => t.getD (s0 + i) 0) (bt x) j) ∧ h' = h)) args s 0 0 (jj_A base)) 45 [(0, .int (nI c)), (1, .int x), (2, .ref tx), (3, .int (nI s0)), (4, .int (nI (s0 + n))), (5, .int nx), (6, .int v), (7, .int (nI d))] [] h 0 0 := by
        intro hm
        refine jj_go C 5 rfl ?_
        refine jj_top (nI_1 d) ?_
        refine jj_go C 3 rfl ?_
        refine next _ _ (fun j a b => ?_) (fun j hj => ?_)
        · rw [bt_or, h1 j a (by omega), bt_shl (by omega) a, Bool.false_or]
          exact decide_eq_false (by omega)
        · rw [bt_or, bt_shl (by omega) (by omega)]
          by_cases he : j = d
          · rw [he, hm, decide_eq_true rfl, Bool.or_true]
          · rw [h2 j (by omega), decide_eq_false (by omega), Bool.or_false]
      refine jj_go C 2 rfl ?_
      refine jj_if C rfl (fun z => absurd z (by rw [hv]; exact nI_ge (by omega) (by omega))) (fun _ => ?_)
      refine jj_go C 3 rfl ?_
      refine jj_top (show v - nI s0 = nI d by rw [hv]; exact (pk_sub (a := s0 + d) (b := s0) (by omega)).trans (by congr 1; omega)) ?_
      refine jj_go C 7 rfl ?_
      refine jj_if C rfl (fun z => ?_) (fun z => miss _ (by rw [Bool.eq_false_iff]; intro q; exact z ((bt_test x (by omega)).mpr (Bool.and_eq_true_iff.mp q).2)))
      have hb := (bt_test x (show d < 8 by omega)).mp z
      refine jj_go C 2 rfl ?_
      refine jj_if C rfl (fun z2 => ?_) (fun z2 => ?_)
      · have g := (nI_eq (a := c) (b := 63) (by omega) (by decide)).mp z2
        exact hit (by rw [g, hb]; rfl)
      · have g : ¬ c = 63 := fun q => z2 (by rw [q]; rfl)
        refine jj_go C 3 rfl ?_
        refine jj_callV C rfl ml_PT_45 wd_372 hrc rfl se_ST_ST_charAt (As := [.int v]) (by rw [hv]; exact kt_ST_charAt hs hlt (by omega)) (rest := [.int (nI c)]) rfl rfl ⟨(Nat.le_of_ble_eq_true rfl), (Nat.le_of_ble_eq_true rfl)⟩ (Nat.le_of_ble_eq_true rfl) (Nat.le_of_ble_eq_true rfl) (Nat.le_of_ble_eq_true rfl) ?_
        rintro q9 h9 ⟨rfl, hh9⟩
        rw [hh9]
        refine jj_if C rfl (fun z3 => ?_) (fun z3 => ?_)
        · have g3 := (nI_eq (a := c) (b := t.getD (s0 + d) 0) (by omega) (by omega)).mp z3
          exact hit (by rw [hb, ← g3]; simp)
        · have g3 : ¬ c = t.getD (s0 + d) 0 := fun q => z3 (by rw [← q])
          exact miss _ (by rw [beq_eq_false_iff_ne.mpr g, beq_eq_false_iff_ne.mpr g3]; rfl)
  refine jj_go C 4 rfl ?_
  exact loop n 0 _ 0 rfl (by omega) (fun j _ _ => bt_0) (fun j hj => absurd hj (Nat.not_lt_zero _))
theorem pt_standsFor {pt ux uxb f0 mm s0 n : Nat} {fs : List Value} {u : List Nat} (ho : h pt = some (.inr (3, fs))) (h0 : fs[0]? = some (.ref ux)) (hu : kx_ST aC h ux uxb u) (hul : u.length ≤ 60) (hm : f0 + mm ≤ u.length) (hs : kx_ST aC h tx txb t) (hn : n ≤ 6) (hl : s0 + n ≤ t.length) (hlen : t.length ≤ 60) : jj_Ct l D aC base yn_PT_standsFor yb_PT_standsFor 9 (some .boolean) 5 0 0 [.ref pt, .int (nI f0), .int (nI (f0 + mm)), .ref tx, .int (nI s0), .int (nI (s0 + n))] h (fun r h' => r = some (.int (jb_I (px_G (fun i => u.getD (f0 + i) 0) (fun i => t.getD (s0 + i) 0) mm n))) ∧ h' = h) := by
  refine jj_start (tb := tb_PT_standsFor) (by decide) tg_PT_standsFor (Nat.le_of_ble_eq_true rfl) ?_
  intro p e s m args below meth cc C
  obtain ⟨fu, hrc⟩ := hu.recv
  have loop : ∀ (k d : Nat) (v x : Int32), v = nI (f0 + d) → d + k = mm → (∀ j, j ≤ n → bt x j = px_G (fun i => u.getD (f0 + i) 0) (fun i => t.getD (s0 + i) 0) d j) → jj_J p l e (jj_rm 5 0 0) s m args below meth cc D base 9 (MQ below (jj_Q D base (fun r h' => r = some (.int (jb_I (px_G (fun i => u.getD (f0 + i) 0) (fun i => t.getD (s0 + i) 0) mm n))) ∧ h' = h)) args s 0 0 (jj_A base)) 6 [(0, .ref pt), (1, .int (nI f0)), (2, .int (nI (f0 + mm))), (3, .ref tx), (4, .int (nI s0)), (5, .int (nI (s0 + n))), (6, .int x), (7, .int v)] [] h 0 0 := by
    intro k
    induction k with
    | zero =>
      intro d v x hv hk hx
      have hd : d = mm := by omega
      subst hd
      refine jj_go C 2 rfl ?_
      refine jj_if C rfl (fun _ => ?_) (fun z => absurd (by rw [hv]; exact nI_le (Nat.le_refl _) (by omega)) z)
      refine jj_go C 4 rfl ?_
      refine jj_top (show nI (s0 + n) - nI s0 = nI n from (pk_sub (a := s0 + n) (b := s0) (by omega)).trans (by congr 1; omega)) ?_
      refine jj_go C 4 rfl ?_
      rw [← hx n (Nat.le_refl _)]
      refine jj_if C rfl (fun z => ?_) (fun z => ?_)
      · have hb := (bt_test x (show n < 8 by omega)).mp z
        rw [hb]
        refine jj_go C 2 rfl ?_
        exact jj_iret C rfl rfl rfl (Nat.le_of_ble_eq_true rfl) (Nat.le_of_ble_eq_true rfl) ⟨rfl, rfl⟩
      · have hb : bt x n = false := by
          rw [Bool.eq_false_iff]
          exact fun q => z ((bt_test x (by omega)).mpr q)
        rw [hb]
        refine jj_go C 1 rfl ?_
        exact jj_iret C rfl rfl rfl (Nat.le_of_ble_eq_true rfl) (Nat.le_of_ble_eq_true rfl) ⟨rfl, rfl⟩
    | succ k ih =>
      intro d v x hv hk hx
      have hlt : f0 + d < u.length := by omega
      have hcd := hu.lt (f0 + d)
      have next : ∀ (x' v8 : Int32), (∀ j, j ≤ n → bt x' j = px_G (fun i => u.getD (f0 + i) 0) (fun i => t.getD (s0 + i) 0) (d + 1) j) → jj_J p l e (jj_rm 5 0 0) s m args below meth cc D base 9 (MQ below (jj_Q D base (fun r h' => r = some (.int (jb_I (px_G (fun i => u.getD (f0 + i) 0) (fun i => t.getD (s0 + i) 0) mm n))) ∧ h' = h)) args s 0 0 (jj_A base)) 55 [(0, .ref pt), (1, .int (nI f0)), (2, .int (nI (f0 + mm))), (3, .ref tx), (4, .int (nI s0)), (5, .int (nI (s0 + n))), (6, .int x'), (7, .int v), (8, .int v8)] [] h 0 0 := by
        intro x' v8 hx'
        refine jj_go C 2 rfl ?_
        refine jj_less (lc' := [(0, .ref pt), (1, .int (nI f0)), (2, .int (nI (f0 + mm))), (3, .ref tx), (4, .int (nI s0)), (5, .int (nI (s0 + n))), (6, .int x'), (7, .int (v + 1))]) (fun q hq => List.mem_append_left [_] hq) (Nat.le_refl _) (Nat.le_refl _) ?_
        exact ih (d + 1) (v + 1) x' (by rw [hv, nI_1]; rfl) (by omega) hx'
      refine jj_go C 2 rfl ?_
      refine jj_if C rfl (fun z => absurd z (by rw [hv]; exact nI_ge (by omega) (by omega))) (fun _ => ?_)
      refine jj_go C 1 rfl ?_
      refine jj_getf C rfl fl_PT_32 ho h0 ?_
      refine jj_go C 1 rfl ?_
      refine jj_callV C rfl ml_PT_45 wd_372 hrc rfl se_ST_ST_charAt (As := [.int v]) (by rw [hv]; exact kt_ST_charAt hu hlt (by omega)) (rest := []) rfl rfl ⟨(Nat.le_of_ble_eq_true rfl), (Nat.le_of_ble_eq_true rfl)⟩ (Nat.le_of_ble_eq_true rfl) (Nat.le_of_ble_eq_true rfl) (Nat.le_of_ble_eq_true rfl) ?_
      rintro q9 h9 ⟨rfl, hh9⟩
      rw [hh9]
      refine jj_go C 3 rfl ?_
      refine jj_if C rfl (fun z => ?_) (fun z => ?_)
      · have g := (nI_eq (a := u.getD (f0 + d) 0) (b := 42) (by omega) (by decide)).mp z
        refine jj_go C 6 rfl ?_
        refine next _ _ (fun j hj => ?_)
        rw [Bool.eq_iff_iff, bt_star x (by omega)]
        show _ ↔ px_Gs (u.getD (f0 + d) 0) _ _ j = true
        rw [g, px_Gs_star j]
        constructor
        · rintro ⟨i, hi, hb⟩
          exact ⟨i, hi, by rw [← hx i (by omega)]; exact hb⟩
        · rintro ⟨i, hi, hb⟩
          exact ⟨i, hi, by rw [hx i (by omega)]; exact hb⟩
      · have g : ¬ u.getD (f0 + d) 0 = 42 := fun q => z (by rw [q]; rfl)
        refine jj_go C 5 rfl ?_
        refine jj_callS C rfl ml_PT_90 wd_723 (pt_reachedBehind (x := x) (s0 := s0) (n := n) hs hcd g hn hl hlen) (rest := []) rfl rfl ⟨Nat.le_of_ble_eq_true rfl, Nat.le_of_ble_eq_true rfl⟩ (Nat.le_of_ble_eq_true rfl) (Nat.le_of_ble_eq_true rfl) (Nat.le_of_ble_eq_true rfl) ?_
        rintro q9 h9 ⟨⟨v9, rfl, hv9⟩, hh9⟩
        rw [hh9]
        refine jj_go C 1 rfl ?_
        refine next _ _ (fun j hj => ?_)
        rw [hv9 j hj]
        exact px_Gs_cg j (fun i hi => hx i (by omega))
  refine jj_go C 4 rfl ?_
  refine loop mm 0 _ 1 rfl (by omega) (fun j hj => ?_)
  rw [bt_1 (by omega)]
  show decide (j = 0) = (j == 0)
  cases j <;> rfl
end FT
