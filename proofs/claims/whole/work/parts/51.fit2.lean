/-! The reference: spread -/
/-- stars may stand for nothing -/
def px_sp (pa : Nat → Nat) (g : Nat → Bool) : Nat → Bool
  | 0 => g 0
  | i + 1 => g (i + 1) || (pa i == 42 && px_sp pa g i)
theorem px_sp_cg {pa : Nat → Nat} {g g' : Nat → Bool} : ∀ i, (∀ j, j ≤ i → g j = g' j) → px_sp pa g i = px_sp pa g' i
  | 0, h => h 0 (Nat.le_refl _)
  | i + 1, h => by
    unfold px_sp
    rw [h (i + 1) (Nat.le_refl _), px_sp_cg i (fun j hj => h j (by omega))]
section MSP
variable {l : Launch} {D : va_G} {aC : Nat → ClassId} {base : Nat} {h : jjHp} {y : Nat} {ad : Nat → Nat} {rh : Nat → List Nat} {sg : Nat → Nat → Int32} {mu : Nat → Int64} {io : Nat → Int32}
theorem rr_spread {r p0 n : Nat} {x : Int32} (hR : RR aC h y ad rh sg mu io) (hr : r < 34) (hn : n ≤ 6) (hp : p0 ≤ 100) : jj_Ct l D aC base yn_MO_spread yb_MO_spread 7 (some .int) 1 0 0 [.ref y, .int (nI r), .int (nI p0), .int (nI n), .int x] h (fun q h' => (∃ v, q = some (.int v) ∧ ∀ i, i ≤ n → bt v i = px_sp (fun i => (rh r).getD (p0 + i) 0) (bt x) i) ∧ h' = h) := by
  obtain ⟨hlen, hch⟩ := hR.len hr
  refine jj_start (tb := tb_MO_spread) (by decide) tg_MO_spread (Nat.le_of_ble_eq_true rfl) ?_
  intro p e s m args below meth cc C
  have hy := hR.oy
  have loop : ∀ (k d : Nat) (v s5 : Int32), v = nI d → d + k = n → (∀ i, i ≤ d → bt s5 i = px_sp (fun i => (rh r).getD (p0 + i) 0) (bt x) i) → (∀ i, d < i → i < 8 → bt s5 i = bt x i) → jj_J p l e (jj_rm 1 0 0) s m args below meth cc D base 7 (MQ below (jj_Q D base (fun q h' => (∃ v, q = some (.int v) ∧ ∀ i, i ≤ n → bt v i = px_sp (fun i => (rh r).getD (p0 + i) 0) (bt x) i) ∧ h' = h)) args s 0 0 (jj_A base)) 7 [(0, .ref y), (1, .int (nI r)), (2, .int (nI p0)), (3, .int (nI n)), (4, .int x), (5, .int s5), (6, .int v)] [] h 0 0 := by
    intro k
    induction k with
    | zero =>
      intro d v s5 hv hk h1 h2
      have hd : d = n := by omega
      subst hd
      refine jj_go C 2 rfl ?_
      refine jj_if C rfl (fun _ => ?_) (fun z => absurd (by rw [hv]; exact nI_le (Nat.le_refl _) (by omega)) z)
      refine jj_go C 1 rfl ?_
      exact jj_iret C rfl rfl rfl (Nat.le_of_ble_eq_true rfl) (Nat.le_of_ble_eq_true rfl) ⟨⟨s5, rfl, h1⟩, rfl⟩
    | succ k ih =>
      intro d v s5 hv hk h1 h2
      have hcd := hch (p0 + d)
      have hsp : px_sp (fun i => (rh r).getD (p0 + i) 0) (bt x) (d + 1) = (bt x (d + 1) || ((rh r).getD (p0 + d) 0 == 42 && bt s5 d)) := by
        rw [h1 d (Nat.le_refl _)]
        rfl
      have next : ∀ s6 : Int32, (∀ i, i ≤ d + 1 → bt s6 i = px_sp (fun i => (rh r).getD (p0 + i) 0) (bt x) i) → (∀ i, d + 1 < i → i < 8 → bt s6 i = bt x i) → jj_J p l e (jj_rm 1 0 0) s m args below meth cc D base 7 (MQ below (jj_Q D base (fun q h' => (∃ v, q = some (.int v) ∧ ∀ i, i ≤ n → bt v i = px_sp (fun i => (rh r).getD (p0 + i) 0) (bt x) i) ∧ h' = h)) args s 0 0 (jj_A base)) 47 [(0, .ref y), (1, .int (nI r)), (2, .int (nI p0)), (3, .int (nI n)), (4, .int x), (5, .int s6), (6, .int v)] [] h 0 0 := by
        intro s6 a1 a2
        refine jj_go C 2 rfl ?_
        exact ih (d + 1) (v + 1) s6 (by rw [hv, nI_1]) (by omega) a1 a2
      have miss : ((rh r).getD (p0 + d) 0 == 42 && bt s5 d) = false → jj_J p l e (jj_rm 1 0 0) s m args below meth cc D base 7 (MQ below (jj_Q D base (fun q h' => (∃ v, q = some (.int v) ∧ ∀ i, i ≤ n → bt v i = px_sp (fun i => (rh r).getD (p0 + i) 0) (bt x) i) ∧ h' = h)) args s 0 0 (jj_A base)) 47 [(0, .ref y), (1, .int (nI r)), (2, .int (nI p0)), (3, .int (nI n)), (4, .int x), (5, .int s5), (6, .int v)] [] h 0 0 := by
        intro hm
        refine next s5 (fun i hi => ?_) (fun i a b => h2 i (by omega) b)
        by_cases he : i = d + 1
        · rw [he, hsp, hm, Bool.or_false]
          exact h2 (d + 1) (by omega) (by omega)
        · exact h1 i (by omega)
      refine jj_go C 2 rfl ?_
      refine jj_if C rfl (fun z => absurd z (by rw [hv]; exact nI_ge (by omega) (by omega))) (fun _ => ?_)
      subst hv
      refine jj_go C 6 rfl ?_
      refine jj_if C rfl (fun z => ?_) (fun z => miss (by rw [Bool.eq_false_iff]; intro q; exact z ((bt_test s5 (by omega)).mpr (Bool.and_eq_true_iff.mp q).2)))
      have hb := (bt_test s5 (show d < 8 by omega)).mp z
      refine jj_go C 5 rfl ?_
      refine jj_callV C rfl ml_MO_83 wd_988 hy rfl se_MO_MO_get1 (rr_get1 (x := nI p0 + nI d) hR hr) (rest := []) rfl rfl ⟨Nat.le_of_ble_eq_true rfl, Nat.le_of_ble_eq_true rfl⟩ (Nat.le_of_ble_eq_true rfl) (Nat.le_of_ble_eq_true rfl) (Nat.le_of_ble_eq_true rfl) ?_
      rintro q9 h9 ⟨rfl, hh9⟩
      rw [hh9]
      have eg : jr_g (rh r) (nI p0 + nI d) = (rh r).getD (p0 + d) 0 := by rw [nI_add, jr_g_n (by omega)]
      rw [eg]
      refine jj_go C 1 rfl ?_
      refine jj_if C rfl (fun z2 => ?_) (fun z2 => ?_)
      · have g := (nI_eq (a := (rh r).getD (p0 + d) 0) (b := 42) (by omega) (by decide)).mp z2
        refine jj_go C 6 rfl ?_
        refine next _ (fun i hi => ?_) (fun i a b => ?_)
        · rw [bt_or, bt_shl2 (by omega) (by omega)]
          by_cases he : i = d + 1
          · rw [he, hsp, g, hb, decide_eq_true rfl, Bool.or_true]
            simp
          · rw [decide_eq_false he, Bool.or_false]
            exact h1 i (by omega)
        · rw [bt_or, bt_shl2 (by omega) b, decide_eq_false (by omega), Bool.or_false]
          exact h2 i (by omega) b
      · have g : ¬ (rh r).getD (p0 + d) 0 = 42 := fun q => z2 (by rw [q]; rfl)
        exact miss (by rw [beq_eq_false_iff_ne.mpr g]; rfl)
  refine jj_go C 4 rfl ?_
  exact loop n 0 0 x nI_0.symm (by omega) (fun i hi => by rw [Nat.le_zero.mp hi]; rfl) (fun i _ _ => rfl)
end MSP
