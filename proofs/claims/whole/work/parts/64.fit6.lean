/-! Pure: properties of a form -/
def px_pq (key : Nat) : List Nat → Bool → Nat → Option Nat
  | [], _, _ => none
  | c :: l, b, k => if b = true ∧ c = 97 + key then some k else px_pq key l (c == 44) (k + 1)
theorem px_pq_s {key c : Nat} {l : List Nat} {b : Bool} {k : Nat} : px_pq key (c :: l) b k = (if b = true ∧ c = 97 + key then some k else px_pq key l (c == 44) (k + 1)) := rfl
theorem px_prf_pq {t : List Nat} {c key : Nat} : ∀ (n k : Nat), (k + n = t.length ∨ (n = 0 ∧ t.length ≤ k)) → c ≤ k → px_prf t c key n k = px_pq key (t.drop k) (decide (k = c) || t.getD (k - 1) 0 == 44) k
  | 0, k, h, _ => by
    rw [List.drop_eq_nil_of_le (by omega)]
    rfl
  | n + 1, k, h, hck => by
    have hk : k < t.length := by omega
    have e : t.drop k = t.getD k 0 :: t.drop (k + 1) := by
      rw [List.drop_eq_getElem_cons hk, List.getD_eq_getElem?_getD, List.getElem?_eq_getElem hk]
      rfl
    have ih := px_prf_pq (t := t) (c := c) (key := key) n (k + 1) (by omega) (by omega)
    rw [e]
    unfold px_prf
    rw [px_pq_s]
    by_cases hc : (k = c ∨ t.getD (k - 1) 0 = 44) ∧ t.getD k 0 = 97 + key
    · rw [if_pos hc, if_pos ⟨by simpa using hc.1, hc.2⟩]
    · rw [if_neg hc, if_neg (fun q => hc ⟨by simpa using q.1, q.2⟩), ih, decide_eq_false (by omega), Bool.false_or, Nat.add_sub_cancel]
theorem px_pr_pq {t : List Nat} {key : Nat} : px_pr t key = px_pq key (t.drop (px_col t + 1)) true (px_col t + 1) := by
  unfold px_pr
  rw [px_prf_pq _ _ (by omega) (Nat.le_refl _), decide_eq_true rfl, Bool.true_or]
theorem px_seg_get {t : List Nat} {p q i : Nat} (hi : i < q - p) : (px_seg t p q).getD i 0 = t.getD (p + i) 0 := by
  unfold px_seg
  rw [List.getD_eq_getElem?_getD, List.getElem?_take, if_pos hi, List.getElem?_drop, List.getD_eq_getElem?_getD]
theorem px_seg_mem {t : List Nat} {p q c : Nat} (h : c ∈ px_seg t p q) (hq : q ≤ t.length) : ∃ i, p ≤ i ∧ i < q ∧ c = t.getD i 0 := by
  obtain ⟨i, hi, he⟩ := List.getElem_of_mem h
  rw [px_seg_len hq] at hi
  refine ⟨p + i, by omega, by omega, ?_⟩
  rw [← px_seg_get hi, ← he, List.getD_eq_getElem?_getD, List.getElem?_eq_getElem]
  rfl
theorem px_seg_cons {t : List Nat} {p q : Nat} (hp : p < q) (hq : q ≤ t.length) : px_seg t p q = t.getD p 0 :: px_seg t (p + 1) q := by
  unfold px_seg
  have hk : p < t.length := by omega
  have e : t.drop p = t.getD p 0 :: t.drop (p + 1) := by
    rw [List.drop_eq_getElem_cons hk, List.getD_eq_getElem?_getD, List.getElem?_eq_getElem hk]
    rfl
  rw [e, show q - p = (q - (p + 1)) + 1 by omega]
  rfl
theorem px_pq_no {key : Nat} : ∀ (s l : List Nat) (k : Nat), (∀ c, c ∈ s → c ≠ 44) → px_pq key (s ++ l) false k = px_pq key l false (k + s.length)
  | [], l, k, _ => rfl
  | c :: s, l, k, h => by
    rw [List.cons_append, px_pq_s, if_neg (fun q => by cases q.1), beq_eq_false_iff_ne.mpr (h c List.mem_cons_self), px_pq_no s l (k + 1) (fun c hc => h c (List.mem_cons_of_mem _ hc)), List.length_cons]
    congr 1
    omega
theorem pc_al_pt {c : Nat} {w : Bool} (h : pc_al c w = true) : pc_pt c = true := by
  have : c ≠ 0 ∧ c ≠ 44 ∧ c ≠ 58 := by
    refine ⟨fun q => ?_, fun q => ?_, fun q => ?_⟩ <;> subst q <;> revert h <;> cases w <;> decide
  unfold pc_pt
  simp [this.1, this.2.1, this.2.2]
theorem pc_al_44 {c : Nat} {w : Bool} (h : pc_al c w = true) : c ≠ 44 := by
  intro q
  subst q
  revert h
  cases w <;> decide
section PQ
variable {t : List Nat} {P : Nat → Option Nat}
theorem px_gd_seg {j p : Nat} (hg : px_gd t true j p) : px_seg t p (px_re t true (p + 2)) = (97 + j) :: px_seg t (p + 1) (px_re t true (p + 2)) ∧ ∀ c, c ∈ px_seg t (p + 1) (px_re t true (p + 2)) → c ≠ 44 := by
  obtain ⟨g1, g2, g3, g4, g5, g6, -⟩ := hg
  refine ⟨by rw [px_seg_cons (by omega) g6, g2], fun c hc => ?_⟩
  obtain ⟨i, a1, a2, rfl⟩ := px_seg_mem hc g6
  by_cases hi : i = p + 1
  · rw [hi, g3]
    decide
  · exact pc_al_44 (px_re_al (t := t) (w := true) (q := p + 2) (by omega) a2).2
theorem px_pq_seg {j p key k : Nat} {l : List Nat} (hg : px_gd t true j p) (hne : j ≠ key) : px_pq key (px_seg t p (px_re t true (p + 2)) ++ l) true k = px_pq key l false (k + (px_seg t p (px_re t true (p + 2))).length) := by
  obtain ⟨e, hs⟩ := px_gd_seg hg
  rw [e, List.cons_append, px_pq_s, if_neg (fun q => hne (by have := q.2; omega)), beq_eq_false_iff_ne.mpr (by have := pc_sm_i.mp hg.1; have := hg.2.1; omega), px_pq_no _ l _ hs, List.length_cons]
  congr 1
  omega
theorem px_gd_len {j p : Nat} (hg : px_gd t true j p) : 3 ≤ (px_seg t p (px_re t true (p + 2))).length ∧ (px_seg t p (px_re t true (p + 2))).length = px_re t true (p + 2) - p := by
  obtain ⟨g1, g2, g3, g4, g5, g6, -⟩ := hg
  rw [px_seg_len g6]
  omega
theorem px_ord_ne {j p : Nat} (hP : P j = some p) (hg : px_gd t true j p) : px_ord t P (j + 1) ≠ [] := by
  intro q
  have := px_gd_len hg
  have h := congrArg List.length q
  rw [px_ord_some hP, List.length_append, List.length_append] at h
  simp only [List.length_nil] at h
  omega
theorem px_pq_ord {key : Nat} (hV : ∀ k p, P k = some p → px_gd t true k p) : ∀ (j : Nat) (l : List Nat) (k : Nat), (∀ i p, i < j → P i = some p → i ≠ key) → px_pq key (px_ord t P j ++ l) true k = px_pq key l (decide (px_ord t P j = [])) (k + (px_ord t P j).length)
  | 0, l, k, _ => rfl
  | j + 1, l, k, h => by
    have ih := fun l => px_pq_ord hV j l k (fun i p hi => h i p (by omega))
    cases hp : P j with
    | none =>
      rw [px_ord_none hp]
      exact ih l
    | some p =>
      have hg := hV j p hp
      have hne := px_ord_ne hp hg
      rw [decide_eq_false hne]
      rw [px_ord_some hp, List.append_assoc, List.append_assoc, ih]
      by_cases h0 : px_ord t P j = []
      · rw [if_pos h0, decide_eq_true h0, List.nil_append, px_pq_seg hg (h j p (by omega) hp)]
        congr 1
        simp only [List.length_append, List.nil_append]
        omega
      · rw [if_neg h0, decide_eq_false h0, List.singleton_append, px_pq_s, if_neg (fun q => by cases q.1)]
        rw [show ((44 : Nat) == 44) = true from rfl, px_pq_seg hg (h j p (by omega) hp)]
        congr 1
        simp only [List.length_append, List.length_cons, List.length_nil]
        omega
theorem px_ord_more {j : Nat} : ∀ m, ∃ r, px_ord t P (j + m) = px_ord t P j ++ r ∧ (px_ord t P j ≠ [] → r = [] ∨ ∃ r', r = 44 :: r')
  | 0 => ⟨[], by rw [List.append_nil]; rfl, fun _ => Or.inl rfl⟩
  | m + 1 => by
    obtain ⟨r, h1, h2⟩ := px_ord_more (j := j) m
    rw [show j + (m + 1) = (j + m) + 1 by omega]
    cases hp : P (j + m) with
    | none =>
      rw [px_ord_none hp]
      exact ⟨r, h1, h2⟩
    | some p =>
      rw [px_ord_some hp]
      refine ⟨r ++ ((if px_ord t P (j + m) = [] then [] else [44]) ++ px_seg t p (px_re t true (p + 2))), ?_, fun hne => ?_⟩
      · conv => lhs; rw [h1]
        rw [List.append_assoc, h1]
      · have hne2 : ¬ px_ord t P (j + m) = [] := fun q => by
          rw [h1] at q
          exact hne (List.append_eq_nil_iff.mp q).1
        rw [if_neg hne2]
        right
        rcases h2 hne with q | ⟨r', q⟩
        · rw [q]
          exact ⟨_, rfl⟩
        · rw [q]
          exact ⟨_, rfl⟩
end PQ
theorem px_app_get {s l : List Nat} {i : Nat} : (s ++ l).getD (s.length + i) 0 = l.getD i 0 := by
  rw [List.getD_eq_getElem?_getD, List.getD_eq_getElem?_getD, List.getElem?_append_right (by omega), Nat.add_sub_cancel_left]
theorem px_app_lt {s l : List Nat} {i : Nat} (h : i < s.length) : (s ++ l).getD i 0 = s.getD i 0 := by
  rw [List.getD_eq_getElem?_getD, List.getD_eq_getElem?_getD, List.getElem?_append_left h]
/-- the domain of a form -/
theorem px_fo_dom {t : List Nat} (hp : px_pa t = true) : px_col (px_fo t) = px_re t true 0 ∧ (∀ i, i ≤ px_re t true 0 → (px_fo t).getD i 0 = t.getD i 0) ∧ (px_fo t).drop (px_re t true 0 + 1) = px_ord t (px_pl t).2.1 26 ++ px_tail (px_ord t (px_pl t).2.1 26) (px_pl t).2.2 ∧ px_re t true 0 < (px_fo t).length ∧ (∀ i, i < px_re t true 0 → pc_pt ((px_fo t).getD i 0) = true) ∧ pc_pt ((px_fo t).getD (px_re t true 0) 0) = false := by
  obtain ⟨h1, h2, h3, h4⟩ := px_pa_i.mp hp
  have hl : (px_seg t 0 (px_re t true 0 + 1)).length = px_re t true 0 + 1 := by
    rw [px_seg_len (by omega)]
    omega
  have hget : ∀ i, i ≤ px_re t true 0 → (px_fo t).getD i 0 = t.getD i 0 := by
    intro i hi
    unfold px_fo px_form
    rw [px_app_lt (by omega), px_seg_get (by omega), Nat.zero_add]
  have hlt : px_re t true 0 < (px_fo t).length := by
    unfold px_fo px_form
    rw [List.length_append]
    omega
  refine ⟨px_col_eq _ _ (by omega) (fun i hi => ?_) (Or.inr (by rw [hget _ (Nat.le_refl _)]; exact h3)), hget, ?_, hlt, fun i hi => ?_, ?_⟩
  · rw [hget i (by omega)]
    have := (px_re_al (t := t) (w := true) (q := 0) (Nat.zero_le _) hi).2
    intro q
    rw [q] at this
    revert this
    decide
  · unfold px_fo px_form
    rw [List.drop_append_of_le_length (by omega), List.drop_eq_nil_of_le (by omega), List.nil_append]
  · rw [hget i (by omega)]
    exact pc_al_pt (px_re_al (t := t) (w := true) (q := 0) (Nat.zero_le _) hi).2
  · rw [hget _ (Nat.le_refl _), h3]
    rfl
theorem px_pl_gd {t : List Nat} (hp : px_pa t = true) : ∀ k p, (px_pl t).2.1 k = some p → px_gd t true k p := by
  obtain ⟨h1, h2, h3, h4⟩ := px_pa_i.mp hp
  exact px_ls_gd _ _ _ h4 (fun k q hq => by cases hq)
theorem px_fo_none {t : List Nat} {key : Nat} (hp : px_pa t = true) (hk : (px_pl t).2.1 key = none) : px_pr (px_fo t) key = none := by
  obtain ⟨d1, d2, d3, -, -, -⟩ := px_fo_dom hp
  rw [px_pr_pq, d1, d3, px_pq_ord (px_pl_gd hp) 26 _ _ (fun i p _ hP q => by rw [q, hk] at hP; cases hP)]
  unfold px_tail
  cases (px_pl t).2.2 with
  | false => rfl
  | true =>
    by_cases h0 : px_ord t (px_pl t).2.1 26 = []
    · rw [if_pos rfl, if_pos h0, px_pq_s, if_neg (fun q => by have := q.2; omega)]
      rfl
    · rw [if_pos rfl, if_neg h0, px_pq_s, if_neg (fun q => by have := q.2; omega), px_pq_s, if_neg (fun q => by have := q.2; omega)]
      rfl
theorem px_fo_some {t : List Nat} {key p : Nat} (hp : px_pa t = true) (hk : (px_pl t).2.1 key = some p) (hk26 : key < 26) : ∃ k, px_pr (px_fo t) key = some k ∧ k + (px_re t true (p + 2) - p) ≤ (px_fo t).length ∧ (∀ i, i < px_re t true (p + 2) - p → (px_fo t).getD (k + i) 0 = t.getD (p + i) 0) ∧ pc_pt ((px_fo t).getD (k + (px_re t true (p + 2) - p)) 0) = false := by
  obtain ⟨d1, d2, d3, d4, -, -⟩ := px_fo_dom hp
  have hV := px_pl_gd hp
  have hg := hV key p hk
  obtain ⟨r, m1, m2⟩ := px_ord_more (t := t) (P := (px_pl t).2.1) (j := key + 1) (26 - (key + 1))
  rw [show key + 1 + (26 - (key + 1)) = 26 by omega] at m1
  have m2 := m2 (px_ord_ne hk hg)
  generalize hT : px_tail (px_ord t (px_pl t).2.1 26) (px_pl t).2.2 = tl at d3
  -- what stands behind the property
  have hend : pc_pt ((r ++ tl).getD 0 0) = false := by
    rcases m2 with q | ⟨r', q⟩
    · rw [q, List.nil_append, ← hT]
      unfold px_tail
      have hne : ¬ px_ord t (px_pl t).2.1 26 = [] := fun q2 => by
        rw [m1] at q2
        exact px_ord_ne hk hg (List.append_eq_nil_iff.mp q2).1
      rw [if_neg hne]
      cases (px_pl t).2.2 <;> rfl
    · rw [q]
      rfl
  obtain ⟨e, hs⟩ := px_gd_seg hg
  obtain ⟨l1, l2⟩ := px_gd_len hg
  have hord := px_ord_some (t := t) hk
  have e2 : (px_fo t).drop (px_re t true 0 + 1) = px_ord t (px_pl t).2.1 key ++ ((if px_ord t (px_pl t).2.1 key = [] then [] else [44]) ++ (px_seg t p (px_re t true (p + 2)) ++ (r ++ tl))) := by
    rw [d3, m1, hord]
    simp only [List.append_assoc]
  have fin : ∀ (sp : List Nat), (if px_ord t (px_pl t).2.1 key = [] then [] else [44]) = sp → px_pr (px_fo t) key = some (px_re t true 0 + 1 + (px_ord t (px_pl t).2.1 key).length + sp.length) := by
    intro sp hsp
    rw [px_pr_pq, d1, e2, px_pq_ord hV key _ _ (fun i p hi _ => by omega), hsp]
    by_cases h0 : px_ord t (px_pl t).2.1 key = []
    · rw [if_pos h0] at hsp
      rw [← hsp, decide_eq_true h0, List.nil_append, e, List.cons_append, px_pq_s, if_pos ⟨rfl, rfl⟩]
      rfl
    · rw [if_neg h0] at hsp
      rw [← hsp, decide_eq_false h0, List.singleton_append, px_pq_s, if_neg (fun q => by cases q.1), e, List.cons_append, px_pq_s, if_pos ⟨rfl, rfl⟩]
      rfl
  generalize hsp : (if px_ord t (px_pl t).2.1 key = [] then ([] : List Nat) else [44]) = sp at e2 fin
  have e3 : (px_fo t).drop (px_re t true 0 + 1 + (px_ord t (px_pl t).2.1 key).length + sp.length) = px_seg t p (px_re t true (p + 2)) ++ (r ++ tl) := by
    rw [← List.drop_drop, ← List.drop_drop, e2, List.drop_left, List.drop_left]
  refine ⟨_, fin sp rfl, ?_, fun i hi => ?_, ?_⟩
  · have := congrArg List.length e3
    rw [List.length_drop, List.length_append] at this
    omega
  · rw [List.getD_eq_getElem?_getD, ← List.getElem?_drop, e3, ← List.getD_eq_getElem?_getD, px_app_lt (by omega), px_seg_get hi]
  · rw [List.getD_eq_getElem?_getD, ← List.getElem?_drop, e3, ← List.getD_eq_getElem?_getD]
    have := px_app_get (s := px_seg t p (px_re t true (p + 2))) (l := r ++ tl) (i := 0)
    rw [l2, Nat.add_zero (px_re t true (p + 2) - p)] at this
    rw [this]
    exact hend
theorem px_Gs_cg2 {c c' : Nat} {ro ro' : Nat → Nat} {g g' : Nat → Bool} (hc : c = c') : ∀ j, (∀ i, i < j → ro i = ro' i) → (∀ i, i ≤ j → g i = g' i) → px_Gs c ro g j = px_Gs c' ro' g' j
  | 0, _, h => by
    subst hc
    unfold px_Gs
    rw [h 0 (Nat.le_refl _)]
  | j + 1, hr, h => by
    have ih := px_Gs_cg2 hc j (fun i hi => hr i (by omega)) (fun i hi => h i (by omega))
    subst hc
    unfold px_Gs
    rw [h (j + 1) (Nat.le_refl _), h j (Nat.le_succ _), ih, hr j (Nat.lt_succ_self _)]
theorem px_G_cg {pa pa' ro ro' : Nat → Nat} : ∀ (i j : Nat), (∀ a, a < i → pa a = pa' a) → (∀ b, b < j → ro b = ro' b) → px_G pa ro i j = px_G pa' ro' i j
  | 0, _, _, _ => rfl
  | i + 1, j, h1, h2 => by
    show px_Gs (pa i) ro (px_G pa ro i) j = px_Gs (pa' i) ro' (px_G pa' ro' i) j
    exact px_Gs_cg2 (h1 i (Nat.lt_succ_self _)) j h2 (fun b hb => px_G_cg i b (fun a ha => h1 a (by omega)) (fun c hc => h2 c (by omega)))
/-- what a pattern's fitting asks of the first n keys -/
def px_ft (op : Bool) (P Q : Nat → Option Nat) (g : Nat → Bool) : Nat → Bool
  | 0 => true
  | n + 1 => px_ft op P Q g n && (match P n with
    | none => op || (Q n).isNone
    | some _ => (Q n).isSome && g n)
/-- can the value of this key stand for that of the other text? -/
def px_fg (t n : List Nat) (key : Nat) : Bool := px_G (fun i => t.getD (((px_pl t).2.1 key).getD 0 + 2 + i) 0) (fun i => n.getD (((px_pl n).2.1 key).getD 0 + 2 + i) 0) (px_re t true (((px_pl t).2.1 key).getD 0 + 2) - (((px_pl t).2.1 key).getD 0 + 2)) (px_re n true (((px_pl n).2.1 key).getD 0 + 2) - (((px_pl n).2.1 key).getD 0 + 2))
/-- does the pattern t fit the name n? -/
def px_fit (t n : List Nat) : Bool := px_G (fun i => t.getD i 0) (fun i => n.getD i 0) (px_re t true 0) (px_re n true 0) && px_ft (px_pl t).2.2 (px_pl t).2.1 (px_pl n).2.1 (px_fg t n) 26
theorem px_ft_all {op : Bool} {P Q : Nat → Option Nat} {g : Nat → Bool} : ∀ n, px_ft op P Q g n = true ↔ ∀ k, k < n → (match P k with | none => op || (Q k).isNone | some _ => (Q k).isSome && g k) = true
  | 0 => ⟨fun _ k hk => absurd hk (Nat.not_lt_zero _), fun _ => rfl⟩
  | n + 1 => by
    unfold px_ft
    rw [Bool.and_eq_true, px_ft_all n]
    constructor
    · rintro ⟨a, b⟩ k hk
      by_cases h : k = n
      · rw [h]
        exact b
      · exact a k (by omega)
    · intro h
      exact ⟨fun k hk => h k (by omega), h n (Nat.lt_succ_self _)⟩
