/-! Pure: parentheses, joints and zeros of a query's text -/
/-- a letter of a comparison: no parenthesis, no joint -/
def qs_n (c : Nat) : Prop := c ≠ 40 ∧ c ≠ 41 ∧ c ≠ 38 ∧ c ≠ 124 ∧ c ≠ 33 ∧ c ≠ 0
theorem qv_u_n {u : List Nat} (h : qv_u u) : ∀ c, c ∈ u → qs_n c := by
  intro c hc
  rcases h with ⟨d, rfl, h1, h2⟩ | ⟨-, -, hd⟩
  · rw [List.mem_singleton.mp hc]
    unfold qs_n
    omega
  · have := pc_dg_i.mp (hd c hc)
    unfold qs_n
    omega
theorem qv_o_n : ∀ (o : List (Nat × List Nat)), (∀ x, x ∈ o → pc_op x.1 = true ∧ qv_u x.2) → ∀ c, c ∈ qv_o o → qs_n c
  | [], _, c, hc => by cases hc
  | k :: o, h, c, hc => by
    have hc : c ∈ k.1 :: (k.2 ++ qv_o o) := hc
    obtain ⟨k1, k2⟩ := h k List.mem_cons_self
    rcases List.mem_cons.mp hc with hc | hc
    · have := pc_op_i.mp k1
      unfold qs_n
      omega
    · rcases List.mem_append.mp hc with hc | hc
      · exact qv_u_n k2 c hc
      · exact qv_o_n o (fun x hx => h x (List.mem_cons_of_mem _ hx)) c hc
theorem qv_c_n {u : List Nat} {o : List (Nat × List Nat)} {r : Nat} {u' : List Nat} {o' : List (Nat × List Nat)} (h1 : qv_k u o) (h2 : qv_k u' o') (h3 : pc_rl r = true) : ∀ c, c ∈ qv_t u o ++ r :: qv_t u' o' → qs_n c := by
  intro c hc
  unfold qv_t at hc
  rcases List.mem_append.mp hc with hc | hc
  · rcases List.mem_append.mp hc with hc | hc
    · exact qv_u_n h1.1 c hc
    · exact qv_o_n o h1.2 c hc
  · rcases List.mem_cons.mp hc with hc | hc
    · have := pc_rl_i.mp h3
      unfold qs_n
      omega
    · rcases List.mem_append.mp hc with hc | hc
      · exact qv_u_n h2.1 c hc
      · exact qv_o_n o' h2.2 c hc
/-- what joins the parts, i deep -/
def qs_j : List Nat → Nat → Nat → Nat
  | [], _, jt => jt
  | c :: l, i, jt => if c = 40 then qs_j l (i + 1) jt else if c = 41 then qs_j l (i - 1) jt else qs_j l i (if i = 0 ∧ (c = 124 ∨ (c = 38 ∧ jt = 0)) then c else jt)
/-- never more closed than opened -/
def qs_b : List Nat → Nat → Prop
  | [], _ => True
  | c :: l, i => if c = 40 then qs_b l (i + 1) else if c = 41 then 1 ≤ i ∧ qs_b l (i - 1) else qs_b l i
def qs_c (sg : Nat) : List Nat → Nat → Bool → Bool
  | [], _, b => b
  | c :: l, i, b => if c = 40 then qs_c sg l (i + 1) b else if c = 41 then qs_c sg l (i - 1) b else qs_c sg l i (b || (decide (i = 0) && c == sg))
theorem qs_j_s {c : Nat} {l : List Nat} {i jt : Nat} : qs_j (c :: l) i jt = (if c = 40 then qs_j l (i + 1) jt else if c = 41 then qs_j l (i - 1) jt else qs_j l i (if i = 0 ∧ (c = 124 ∨ (c = 38 ∧ jt = 0)) then c else jt)) := rfl
theorem qs_b_s {c : Nat} {l : List Nat} {i : Nat} : qs_b (c :: l) i = (if c = 40 then qs_b l (i + 1) else if c = 41 then 1 ≤ i ∧ qs_b l (i - 1) else qs_b l i) := rfl
theorem qs_c_s {sg c : Nat} {l : List Nat} {i : Nat} {b : Bool} : qs_c sg (c :: l) i b = (if c = 40 then qs_c sg l (i + 1) b else if c = 41 then qs_c sg l (i - 1) b else qs_c sg l i (b || (decide (i = 0) && c == sg))) := rfl
def qs_u (k jt : Nat) : Nat := if k = 124 then 124 else if k = 38 ∧ jt = 0 then 38 else jt
theorem qs_j_n : ∀ (s rest : List Nat) (i jt : Nat), (∀ c, c ∈ s → qs_n c) → qs_j (s ++ rest) i jt = qs_j rest i jt ∧ (qs_b (s ++ rest) i ↔ qs_b rest i)
  | [], _, _, _, _ => ⟨rfl, Iff.rfl⟩
  | c :: s, rest, i, jt, h => by
    obtain ⟨a1, a2, a3, a4, -, -⟩ := h c List.mem_cons_self
    obtain ⟨b1, b2⟩ := qs_j_n s rest i jt (fun c hc => h c (List.mem_cons_of_mem _ hc))
    rw [List.cons_append]
    rw [qs_j_s, qs_b_s, if_neg a1, if_neg a2, if_neg a1, if_neg a2, if_neg (by omega)]
    exact ⟨b1, b2⟩
theorem qs_c_n {sg : Nat} (hsg : sg = 124 ∨ sg = 38) : ∀ (s rest : List Nat) (i : Nat) (b : Bool), (∀ c, c ∈ s → qs_n c) → qs_c sg (s ++ rest) i b = qs_c sg rest i b
  | [], _, _, _, _ => rfl
  | c :: s, rest, i, b, h => by
    obtain ⟨a1, a2, a3, a4, -, -⟩ := h c List.mem_cons_self
    have hne : (c == sg) = false := beq_eq_false_iff_ne.mpr (by omega)
    rw [List.cons_append]
    rw [qs_c_s, if_neg a1, if_neg a2, hne, Bool.and_false, Bool.or_false]
    exact qs_c_n hsg s rest i b (fun c hc => h c (List.mem_cons_of_mem _ hc))
theorem QQ.lev {lv : Nat} {s : List Nat} {f : Nat → Nat → List Nat} {j k : Nat} {A : (Nat → Option Int32) → Nat} (h : QQ lv s f j k A) : (k = 0 ∨ k = 38 ∨ k = 124) ∧ (lv ≤ 1 → k ≠ 124) ∧ (lv = 0 → k = 0) := by
  refine h.ind (M := fun lv s f j k A => (k = 0 ∨ k = 38 ∨ k = 124) ∧ (lv ≤ 1 → k ≠ 124) ∧ (lv = 0 → k = 0)) ⟨?_, ?_, ?_, ?_, ?_, ?_⟩
  · intro u o r u' o' h1 h2 h3
    exact ⟨QQ.cmp h1 h2 h3, by omega⟩
  · intro s f j k A h
    exact ⟨h.1.neg, by omega⟩
  · intro s f j k A h
    exact ⟨h.1.par, by omega⟩
  · intro s f j k A s' f' j' k' A' h h'
    exact ⟨h.1.and h'.1, by omega⟩
  · intro s f j k A s' f' j' k' A' h h'
    exact ⟨h.1.or h'.1, by omega⟩
  · intro lv lv' s f j k A h hl
    refine ⟨h.1.up hl, ?_⟩
    have := h.2
    omega
/-- what joins the parts of a query's text -/
theorem QQ.joint {lv : Nat} {s : List Nat} {f : Nat → Nat → List Nat} {j k : Nat} {A : (Nat → Option Int32) → Nat} (h : QQ lv s f j k A) : ∀ rest i jt, qs_j (s ++ rest) i jt = qs_j rest i (if i = 0 then qs_u k jt else jt) ∧ (qs_b (s ++ rest) i ↔ qs_b rest i) := by
  refine h.ind (M := fun lv s f j k A => ∀ rest i jt, qs_j (s ++ rest) i jt = qs_j rest i (if i = 0 then qs_u k jt else jt) ∧ (qs_b (s ++ rest) i ↔ qs_b rest i)) ⟨?_, ?_, ?_, ?_, ?_, ?_⟩
  · intro u o r u' o' h1 h2 h3
    refine ⟨QQ.cmp h1 h2 h3, fun rest i jt => ?_⟩
    have := qs_j_n (qv_t u o ++ r :: qv_t u' o') rest i jt (qv_c_n h1 h2 h3)
    have e : (if i = 0 then qs_u 0 jt else jt) = jt := by
      show (if i = 0 then jt else jt) = jt
      split <;> rfl
    rw [e]
    exact this
  · intro s f j k A h
    refine ⟨h.1.neg, fun rest i jt => ?_⟩
    obtain ⟨a1, a2⟩ := h.2 rest i jt
    have hk := h.1.lev.2.2 rfl
    rw [hk] at a1
    have e2 : qs_j (33 :: (s ++ rest)) i jt = qs_j (s ++ rest) i jt := by
      rw [qs_j_s, if_neg (by decide), if_neg (by decide), if_neg (by omega)]
    have e3 : qs_b (33 :: (s ++ rest)) i = qs_b (s ++ rest) i := by
      rw [qs_b_s, if_neg (by decide), if_neg (by decide)]
    rw [List.cons_append, e2, e3]
    exact ⟨a1, a2⟩
  · intro s f j k A h
    refine ⟨h.1.par, fun rest i jt => ?_⟩
    have e : (40 :: (s ++ [41])) ++ rest = 40 :: (s ++ (41 :: rest)) := by simp
    have e2 : (if i = 0 then qs_u 0 jt else jt) = jt := by
      show (if i = 0 then jt else jt) = jt
      split <;> rfl
    obtain ⟨a1, a2⟩ := h.2 (41 :: rest) (i + 1) jt
    rw [if_neg (by omega)] at a1
    rw [e, e2]
    show qs_j (s ++ (41 :: rest)) (i + 1) jt = _ ∧ (qs_b (s ++ (41 :: rest)) (i + 1) ↔ _)
    rw [a1, a2]
    refine ⟨rfl, ?_⟩
    show (1 ≤ i + 1 ∧ qs_b rest (i + 1 - 1)) ↔ _
    rw [Nat.add_sub_cancel]
    exact ⟨fun q => q.2, fun q => ⟨by omega, q⟩⟩
  · intro s f j k A s' f' j' k' A' h h'
    refine ⟨h.1.and h'.1, fun rest i jt => ?_⟩
    have e : (s ++ 38 :: s') ++ rest = s ++ (38 :: (s' ++ rest)) := by simp
    obtain ⟨a1, a2⟩ := h.2 (38 :: (s' ++ rest)) i jt
    rw [e, a1, a2]
    show qs_j (s' ++ rest) i _ = _ ∧ (qs_b (s' ++ rest) i ↔ _)
    obtain ⟨b1, b2⟩ := h'.2 rest i (if i = 0 ∧ ((38 : Nat) = 124 ∨ ((38 : Nat) = 38 ∧ (if i = 0 then qs_u k jt else jt) = 0)) then 38 else (if i = 0 then qs_u k jt else jt))
    refine ⟨b1.trans ?_, b2⟩
    congr 1
    have k1 := h.1.lev
    have k2 := h'.1.lev
    unfold qs_u
    by_cases hi : i = 0
    · by_cases hj : jt = 0
      · rcases k1.1 with q | q | q <;> rcases k2.1 with q' | q' | q' <;> simp [hi, hj, q, q'] at k1 k2 ⊢
      · rcases k1.1 with q | q | q <;> rcases k2.1 with q' | q' | q' <;> simp [hi, hj, q, q'] at k1 k2 ⊢
    · simp [hi]
  · intro s f j k A s' f' j' k' A' h h'
    refine ⟨h.1.or h'.1, fun rest i jt => ?_⟩
    have e : (s ++ 124 :: s') ++ rest = s ++ (124 :: (s' ++ rest)) := by simp
    obtain ⟨a1, a2⟩ := h.2 (124 :: (s' ++ rest)) i jt
    rw [e, a1, a2]
    show qs_j (s' ++ rest) i _ = _ ∧ (qs_b (s' ++ rest) i ↔ _)
    obtain ⟨b1, b2⟩ := h'.2 rest i (if i = 0 ∧ ((124 : Nat) = 124 ∨ ((124 : Nat) = 38 ∧ (if i = 0 then qs_u k jt else jt) = 0)) then 124 else (if i = 0 then qs_u k jt else jt))
    refine ⟨b1.trans ?_, b2⟩
    congr 1
    have k2 := h'.1.lev
    unfold qs_u
    by_cases hi : i = 0
    · rcases k2.1 with q' | q' | q' <;> simp [hi, q']
    · simp [hi]
  · intro lv lv' s f j k A h hl
    exact ⟨h.1.up hl, h.2⟩
theorem QQ.jf {lv : Nat} {s : List Nat} {f : Nat → Nat → List Nat} {j k : Nat} {A : (Nat → Option Int32) → Nat} (h : QQ lv s f j k A) : qs_j s 0 0 = k ∧ qs_b s 0 := by
  obtain ⟨a, b⟩ := h.joint [] 0 0
  rw [List.append_nil] at a b
  refine ⟨a.trans ?_, b.mpr trivial⟩
  show qs_u k 0 = k
  have := h.lev.1
  unfold qs_u
  rcases this with q | q | q <;> rw [q] <;> rfl
/-- is there such a joint? -/
theorem QQ.has {lv : Nat} {s : List Nat} {f : Nat → Nat → List Nat} {j k : Nat} {A : (Nat → Option Int32) → Nat} (h : QQ lv s f j k A) {sg : Nat} (hsg : sg = 124 ∨ sg = 38) : ∀ rest i b, ∃ d, qs_c sg (s ++ rest) i b = qs_c sg rest i (b || d) ∧ (i ≠ 0 → d = false) ∧ (i = 0 → sg = 124 → d = (k == 124)) ∧ (i = 0 → sg = 38 → k ≠ 124 → d = (k == 38)) := by
  refine h.ind (M := fun lv s f j k A => ∀ rest i b, ∃ d, qs_c sg (s ++ rest) i b = qs_c sg rest i (b || d) ∧ (i ≠ 0 → d = false) ∧ (i = 0 → sg = 124 → d = (k == 124)) ∧ (i = 0 → sg = 38 → k ≠ 124 → d = (k == 38))) ⟨?_, ?_, ?_, ?_, ?_, ?_⟩
  · intro u o r u' o' h1 h2 h3
    refine ⟨QQ.cmp h1 h2 h3, fun rest i b => ⟨false, ?_, fun _ => rfl, fun _ _ => rfl, fun _ _ _ => rfl⟩⟩
    rw [Bool.or_false]
    exact qs_c_n hsg _ rest i b (qv_c_n h1 h2 h3)
  · intro s f j k A h
    refine ⟨h.1.neg, fun rest i b => ?_⟩
    obtain ⟨d, a1, a2, a3, a4⟩ := h.2 rest i b
    have hk := h.1.lev.2.2 rfl
    rw [hk] at a3 a4
    refine ⟨d, ?_, a2, a3, a4⟩
    have hne : ((33 : Nat) == sg) = false := beq_eq_false_iff_ne.mpr (by omega)
    rw [List.cons_append]
    rw [qs_c_s, if_neg (by decide), if_neg (by decide), hne, Bool.and_false, Bool.or_false]
    exact a1
  · intro s f j k A h
    refine ⟨h.1.par, fun rest i b => ?_⟩
    have e : (40 :: (s ++ [41])) ++ rest = 40 :: (s ++ (41 :: rest)) := by simp
    obtain ⟨d, a1, a2, -, -⟩ := h.2 (41 :: rest) (i + 1) b
    rw [a2 (by omega), Bool.or_false] at a1
    refine ⟨false, ?_, fun _ => rfl, fun _ _ => rfl, fun _ _ _ => rfl⟩
    rw [e, Bool.or_false]
    show qs_c sg (s ++ (41 :: rest)) (i + 1) b = _
    rw [a1]
    rfl
  · intro s f j k A s' f' j' k' A' h h'
    refine ⟨h.1.and h'.1, fun rest i b => ?_⟩
    have e : (s ++ 38 :: s') ++ rest = s ++ (38 :: (s' ++ rest)) := by simp
    obtain ⟨d, a1, a2, a3, a4⟩ := h.2 (38 :: (s' ++ rest)) i b
    obtain ⟨d', b1, b2, b3, b4⟩ := h'.2 rest i ((b || d) || (decide (i = 0) && (38 : Nat) == sg))
    refine ⟨d || ((decide (i = 0) && (38 : Nat) == sg) || d'), ?_, fun hi => ?_, fun hi hs => ?_, fun hi hs _ => ?_⟩
    · rw [e, a1]
      show qs_c sg (s' ++ rest) i ((b || d) || (decide (i = 0) && (38 : Nat) == sg)) = _
      rw [b1]
      congr 1
      simp only [Bool.or_assoc]
    · rw [a2 hi, b2 hi, decide_eq_false hi]
      rfl
    · rw [a3 hi hs, b3 hi hs, hs]
      have k1 := h.1.lev.2.1 (Nat.le_refl _)
      have k2 := h'.1.lev.2.1 (Nat.le_refl _)
      rw [beq_eq_false_iff_ne.mpr k1, beq_eq_false_iff_ne.mpr k2]
      simp
    · rw [hi, hs]
      simp
  · intro s f j k A s' f' j' k' A' h h'
    refine ⟨h.1.or h'.1, fun rest i b => ?_⟩
    have e : (s ++ 124 :: s') ++ rest = s ++ (124 :: (s' ++ rest)) := by simp
    obtain ⟨d, a1, a2, a3, a4⟩ := h.2 (124 :: (s' ++ rest)) i b
    obtain ⟨d', b1, b2, b3, b4⟩ := h'.2 rest i ((b || d) || (decide (i = 0) && (124 : Nat) == sg))
    refine ⟨d || ((decide (i = 0) && (124 : Nat) == sg) || d'), ?_, fun hi => ?_, fun hi hs => ?_, fun hi hs hk => absurd rfl hk⟩
    · rw [e, a1]
      show qs_c sg (s' ++ rest) i ((b || d) || (decide (i = 0) && (124 : Nat) == sg)) = _
      rw [b1]
      congr 1
      simp only [Bool.or_assoc]
    · rw [a2 hi, b2 hi, decide_eq_false hi]
      rfl
    · rw [hi, hs]
      simp
  · intro lv lv' s f j k A h hl
    exact ⟨h.1.up hl, h.2⟩
theorem QQ.or_in {lv : Nat} {s : List Nat} {f : Nat → Nat → List Nat} {j k : Nat} {A : (Nat → Option Int32) → Nat} (h : QQ lv s f j k A) : qs_c 124 s 0 false = (k == 124) ∧ (k ≠ 124 → qs_c 38 s 0 false = (k == 38)) := by
  obtain ⟨d, a1, -, a3, -⟩ := h.has (Or.inl rfl) [] 0 false
  obtain ⟨d', b1, -, -, b4⟩ := h.has (Or.inr rfl) [] 0 false
  rw [List.append_nil] at a1 b1
  exact ⟨a1.trans (a3 rfl rfl), fun q => b1.trans (b4 rfl rfl q)⟩
/-! partners -/
def px_pf (t : List Nat) : Nat → Nat → Nat → Option Nat
  | 0, _, _ => none
  | n + 1, q, lv => if t.getD q 0 = 40 then px_pf t n (q + 1) (lv + 1) else if t.getD q 0 = 41 then (if lv = 0 then none else if lv = 1 then some q else px_pf t n (q + 1) (lv - 1)) else if lv = 0 then some q else px_pf t n (q + 1) lv
/-- back, from the letter before q -/
def px_pb (t : List Nat) : Nat → Nat → Nat → Option Nat
  | 0, _, _ => none
  | _ + 1, 0, _ => none
  | n + 1, q + 1, lv => if t.getD q 0 = 41 then px_pb t n q (lv + 1) else if t.getD q 0 = 40 then (if lv = 0 then none else if lv = 1 then some q else px_pb t n q (lv - 1)) else if lv = 0 then some q else px_pb t n q lv
theorem px_pf_n {t : List Nat} : ∀ (s : List Nat) (rest : List Nat) (n p lv : Nat), t.drop p = s ++ rest → (∀ c, c ∈ s → c ≠ 40 ∧ c ≠ 41) → 0 < lv → px_pf t (n + s.length) p lv = px_pf t n (p + s.length) lv ∧ px_pb t (n + s.length) (p + s.length) lv = px_pb t n p lv
  | [], _, _, _, _, _, _, _ => ⟨rfl, rfl⟩
  | c :: s, rest, n, p, lv, e, h, hl => by
    obtain ⟨a1, a2⟩ := h c List.mem_cons_self
    obtain ⟨g1, g2, -⟩ := qd_cons e
    have h' : ∀ c, c ∈ s → c ≠ 40 ∧ c ≠ 41 := fun c hc => h c (List.mem_cons_of_mem _ hc)
    constructor
    · have := (px_pf_n s rest n (p + 1) lv g2 h' hl).1
      rw [List.length_cons, show n + (s.length + 1) = n + s.length + 1 by omega]
      show (if t.getD p 0 = 40 then _ else if t.getD p 0 = 41 then _ else if lv = 0 then _ else px_pf t (n + s.length) (p + 1) lv) = _
      rw [if_neg (by omega), if_neg (by omega), if_neg (by omega), this]
      congr 1
      omega
    · have := (px_pf_n s rest (n + 1) (p + 1) lv g2 h' hl).2
      rw [List.length_cons, show n + (s.length + 1) = n + 1 + s.length by omega, show p + (s.length + 1) = p + 1 + s.length by omega, this]
      show (if t.getD p 0 = 41 then _ else if t.getD p 0 = 40 then _ else if lv = 0 then _ else px_pb t n p lv) = _
      rw [if_neg (by omega), if_neg (by omega), if_neg (by omega)]
theorem QQ.over {lv : Nat} {s : List Nat} {f : Nat → Nat → List Nat} {j k : Nat} {A : (Nat → Option Int32) → Nat} (h : QQ lv s f j k A) (t : List Nat) : ∀ rest n p w, t.drop p = s ++ rest → 0 < w → px_pf t (n + s.length) p w = px_pf t n (p + s.length) w ∧ px_pb t (n + s.length) (p + s.length) w = px_pb t n p w := by
  have one : ∀ (c : Nat) (rest : List Nat) (n p w : Nat), c ≠ 40 → c ≠ 41 → t.drop p = c :: rest → 0 < w → px_pf t (n + 1) p w = px_pf t n (p + 1) w ∧ px_pb t (n + 1) (p + 1) w = px_pb t n p w := by
    intro c rest n p w h1 h2 e hw
    exact px_pf_n [c] rest n p w e (fun d hd => by rw [List.mem_singleton.mp hd]; exact ⟨h1, h2⟩) hw
  have two : ∀ (c : Nat) (s s' : List Nat), c ≠ 40 → c ≠ 41 → (∀ rest n p w, t.drop p = s ++ rest → 0 < w → px_pf t (n + s.length) p w = px_pf t n (p + s.length) w ∧ px_pb t (n + s.length) (p + s.length) w = px_pb t n p w) → (∀ rest n p w, t.drop p = s' ++ rest → 0 < w → px_pf t (n + s'.length) p w = px_pf t n (p + s'.length) w ∧ px_pb t (n + s'.length) (p + s'.length) w = px_pb t n p w) → ∀ rest n p w, t.drop p = (s ++ c :: s') ++ rest → 0 < w → px_pf t (n + (s ++ c :: s').length) p w = px_pf t n (p + (s ++ c :: s').length) w ∧ px_pb t (n + (s ++ c :: s').length) (p + (s ++ c :: s').length) w = px_pb t n p w := by
    intro c s s' c1 c2 h h' rest n p w e hw
    have e : t.drop p = s ++ (c :: (s' ++ rest)) := by rw [e]; simp
    have e2 := qd_app e
    obtain ⟨-, e3, -⟩ := qd_cons e2
    have hl : (s ++ c :: s').length = s.length + 1 + s'.length := by simp; omega
    rw [hl]
    constructor
    · have x1 := (h _ (n + s'.length + 1) p w e hw).1
      have x2 := (one c _ (n + s'.length) _ w c1 c2 e2 hw).1
      have x3 := (h' _ n _ w e3 hw).1
      rw [show n + (s.length + 1 + s'.length) = n + s'.length + 1 + s.length by omega, x1, x2, x3]
      congr 1
      omega
    · have x1 := (h _ n p w e hw).2
      have x2 := (one c _ (n + s.length) _ w c1 c2 e2 hw).2
      have x3 := (h' _ (n + s.length + 1) _ w e3 hw).2
      rw [show n + (s.length + 1 + s'.length) = n + s.length + 1 + s'.length by omega, show p + (s.length + 1 + s'.length) = p + s.length + 1 + s'.length by omega, x3, x2, x1]
  refine h.ind (M := fun lv s f j k A => ∀ rest n p w, t.drop p = s ++ rest → 0 < w → px_pf t (n + s.length) p w = px_pf t n (p + s.length) w ∧ px_pb t (n + s.length) (p + s.length) w = px_pb t n p w) ⟨?_, ?_, ?_, ?_, ?_, ?_⟩
  · intro u o r u' o' h1 h2 h3
    exact ⟨QQ.cmp h1 h2 h3, fun rest n p w e hw => px_pf_n _ rest n p w e (fun c hc => ⟨(qv_c_n h1 h2 h3 c hc).1, (qv_c_n h1 h2 h3 c hc).2.1⟩) hw⟩
  · intro s f j k A h
    refine ⟨h.1.neg, fun rest n p w e hw => ?_⟩
    obtain ⟨-, e2, -⟩ := qd_cons e
    rw [List.length_cons]
    constructor
    · have x1 := (one 33 _ (n + s.length) p w (by decide) (by decide) e hw).1
      have x2 := (h.2 rest n (p + 1) w e2 hw).1
      rw [show n + (s.length + 1) = n + s.length + 1 by omega, x1, x2]
      congr 1
      omega
    · have x1 := (one 33 _ n p w (by decide) (by decide) e hw).2
      have x2 := (h.2 rest (n + 1) (p + 1) w e2 hw).2
      rw [show n + (s.length + 1) = n + 1 + s.length by omega, show p + (s.length + 1) = p + 1 + s.length by omega, x2, x1]
  · intro s f j k A h
    refine ⟨h.1.par, fun rest n p w e hw => ?_⟩
    have e : t.drop p = 40 :: (s ++ (41 :: rest)) := by rw [e]; simp
    obtain ⟨g1, e2, -⟩ := qd_cons e
    have e3 := qd_app e2
    obtain ⟨g2, e4, -⟩ := qd_cons e3
    have hl : (40 :: (s ++ [41])).length = s.length + 2 := by simp
    rw [hl]
    constructor
    · have x1 := (h.2 _ (n + 1) (p + 1) (w + 1) e2 (by omega)).1
      rw [show n + (s.length + 2) = n + 1 + s.length + 1 by omega]
      show (if t.getD p 0 = 40 then px_pf t (n + 1 + s.length) (p + 1) (w + 1) else _) = _
      rw [if_pos g1, x1]
      show (if t.getD (p + 1 + s.length) 0 = 40 then _ else if t.getD (p + 1 + s.length) 0 = 41 then (if w + 1 = 0 then _ else if w + 1 = 1 then _ else px_pf t n (p + 1 + s.length + 1) (w + 1 - 1)) else _) = _
      rw [if_neg (by omega), if_pos g2, if_neg (by omega), if_neg (by omega), Nat.add_sub_cancel]
      congr 1
      omega
    · have x1 := (h.2 _ (n + 1) (p + 1) (w + 1) e2 (by omega)).2
      rw [show n + (s.length + 2) = n + 1 + s.length + 1 by omega, show p + (s.length + 2) = p + 1 + s.length + 1 by omega]
      show (if t.getD (p + 1 + s.length) 0 = 41 then px_pb t (n + 1 + s.length) (p + 1 + s.length) (w + 1) else _) = _
      rw [if_pos g2, x1]
      show (if t.getD p 0 = 41 then _ else if t.getD p 0 = 40 then (if w + 1 = 0 then _ else if w + 1 = 1 then _ else px_pb t n p (w + 1 - 1)) else _) = _
      rw [if_neg (by omega), if_pos g1, if_neg (by omega), if_neg (by omega), Nat.add_sub_cancel]
  · intro s f j k A s' f' j' k' A' h h'
    exact ⟨h.1.and h'.1, two 38 s s' (by decide) (by decide) h.2 h'.2⟩
  · intro s f j k A s' f' j' k' A' h h'
    exact ⟨h.1.or h'.1, two 124 s s' (by decide) (by decide) h.2 h'.2⟩
  · intro lv lv' s f j k A h hl
    exact ⟨h.1.up hl, h.2⟩
/-- the partners of a pair -/
theorem QQ.pair {lv : Nat} {s : List Nat} {f : Nat → Nat → List Nat} {j k : Nat} {A : (Nat → Option Int32) → Nat} (h : QQ lv s f j k A) {t rest : List Nat} {p n : Nat} (e : t.drop p = 40 :: (s ++ (41 :: rest))) (hn : s.length + 2 ≤ n) : px_pf t n p 0 = some (p + 1 + s.length) ∧ px_pb t n (p + 1 + s.length + 1) 0 = some p := by
  obtain ⟨g1, e2, -⟩ := qd_cons e
  have e3 := qd_app e2
  obtain ⟨g2, e4, -⟩ := qd_cons e3
  obtain ⟨m, rfl⟩ : ∃ m, n = m + 1 + s.length + 1 := ⟨n - s.length - 2, by omega⟩
  obtain ⟨x1, x2⟩ := h.over t _ (m + 1) (p + 1) 1 e2 (by decide)
  constructor
  · show (if t.getD p 0 = 40 then px_pf t (m + 1 + s.length) (p + 1) (0 + 1) else _) = _
    rw [if_pos g1, Nat.zero_add, x1]
    show (if t.getD (p + 1 + s.length) 0 = 40 then _ else if t.getD (p + 1 + s.length) 0 = 41 then (if (1 : Nat) = 0 then _ else if (1 : Nat) = 1 then _ else _) else _) = _
    rw [if_neg (by omega), if_pos g2, if_neg (by decide), if_pos rfl]
  · show (if t.getD (p + 1 + s.length) 0 = 41 then px_pb t (m + 1 + s.length) (p + 1 + s.length) (0 + 1) else _) = _
    rw [if_pos g2, Nat.zero_add, x2]
    show (if t.getD p 0 = 41 then _ else if t.getD p 0 = 40 then (if (1 : Nat) = 0 then _ else if (1 : Nat) = 1 then _ else _) else _) = _
    rw [if_neg (by omega), if_pos g1, if_neg (by decide), if_pos rfl]
/-- a pair around the whole, or no pair is -/
theorem QQ.inv {lv : Nat} {s : List Nat} {f : Nat → Nat → List Nat} {j k : Nat} {A : (Nat → Option Int32) → Nat} (h : QQ lv s f j k A) : (∃ s' f' k' A', s = 40 :: (s' ++ [41]) ∧ QQ 2 s' f' j k' A') ∨ (j = k ∧ ∀ t p rest n, t.drop p = s ++ rest → t.getD p 0 = 40 → s.length ≤ n → ∃ r, px_pf t n p 0 = some r ∧ r + 1 < p + s.length) := by
  refine h.ind (M := fun lv s f j k A => (∃ s' f' k' A', s = 40 :: (s' ++ [41]) ∧ QQ 2 s' f' j k' A') ∨ (j = k ∧ ∀ t p rest n, t.drop p = s ++ rest → t.getD p 0 = 40 → s.length ≤ n → ∃ r, px_pf t n p 0 = some r ∧ r + 1 < p + s.length)) ⟨?_, ?_, ?_, ?_, ?_, ?_⟩
  · intro u o r u' o' h1 h2 h3
    refine ⟨QQ.cmp h1 h2 h3, Or.inr ⟨rfl, fun t p rest n e hp _ => ?_⟩⟩
    have hh := (qv_u_hd (l := qv_o o ++ (r :: (qv_t u' o' ++ rest))) h1.1).2.1
    rw [← qd_hd, e] at hp
    refine absurd ?_ hh
    rw [← hp]
    unfold qv_t
    simp only [List.append_assoc, List.cons_append]
  · intro s f j k A h
    refine ⟨h.1.neg, Or.inr ⟨rfl, fun t p rest n e hp _ => ?_⟩⟩
    obtain ⟨g1, -, -⟩ := qd_cons e
    omega
  · intro s f j k A h
    exact ⟨h.1.par, Or.inl ⟨s, f, k, A, rfl, h.1⟩⟩
  · intro s f j k A s' f' j' k' A' h h'
    refine ⟨h.1.and h'.1, Or.inr ⟨rfl, fun t p rest n e hp hn => ?_⟩⟩
    have e : t.drop p = s ++ (38 :: (s' ++ rest)) := by rw [e]; simp
    have hl : (s ++ 38 :: s').length = s.length + 1 + s'.length := by simp; omega
    rw [hl] at hn ⊢
    rcases h.2 with ⟨s2, f2, k2, A2, hs, hq⟩ | ⟨-, hq⟩
    · have e : t.drop p = 40 :: (s2 ++ (41 :: (38 :: (s' ++ rest)))) := by rw [e, hs]; simp
      have hl2 : s.length = s2.length + 2 := by rw [hs]; simp
      exact ⟨_, (hq.pair e (by omega)).1, by omega⟩
    · obtain ⟨r, a1, a2⟩ := hq t p _ n e hp (by omega)
      exact ⟨r, a1, by omega⟩
  · intro s f j k A s' f' j' k' A' h h'
    refine ⟨h.1.or h'.1, Or.inr ⟨rfl, fun t p rest n e hp hn => ?_⟩⟩
    have e : t.drop p = s ++ (124 :: (s' ++ rest)) := by rw [e]; simp
    have hl : (s ++ 124 :: s').length = s.length + 1 + s'.length := by simp; omega
    rw [hl] at hn ⊢
    rcases h.2 with ⟨s2, f2, k2, A2, hs, hq⟩ | ⟨-, hq⟩
    · have e : t.drop p = 40 :: (s2 ++ (41 :: (124 :: (s' ++ rest)))) := by rw [e, hs]; simp
      have hl2 : s.length = s2.length + 2 := by rw [hs]; simp
      exact ⟨_, (hq.pair e (by omega)).1, by omega⟩
    · obtain ⟨r, a1, a2⟩ := hq t p _ n e hp (by omega)
      exact ⟨r, a1, by omega⟩
  · intro lv lv' s f j k A h hl
    exact ⟨h.1.up hl, h.2⟩
/-! zeros, letter by letter -/
def qs_z : List Nat → Nat → Nat → List Nat
  | [], _, _ => []
  | c :: l, la, e => if c = 48 ∧ pc_dg (l.headD e) = true ∧ pc_dg la = false then qs_z l la e else c :: qs_z l c e
theorem qs_z_s {c : Nat} {l : List Nat} {la e : Nat} : qs_z (c :: l) la e = (if c = 48 ∧ pc_dg (l.headD e) = true ∧ pc_dg la = false then qs_z l la e else c :: qs_z l c e) := rfl
theorem qv_z_s {c : Nat} {u : List Nat} : qv_z (c :: u) = (if c = 48 ∧ u ≠ [] then qv_z u else c :: u) := rfl
theorem qs_z_d : ∀ (u l : List Nat) (la e : Nat), (∀ c, c ∈ u → pc_dg c = true) → pc_dg la = true → pc_dg (l.headD e) = false → ∃ la', qs_z (u ++ l) la e = u ++ qs_z l la' e ∧ pc_dg la' = true
  | [], l, la, e, _, h, _ => ⟨la, rfl, h⟩
  | c :: u, l, la, e, hu, hla, hl => by
    obtain ⟨la', h1, h2⟩ := qs_z_d u l c e (fun c hc => hu c (List.mem_cons_of_mem _ hc)) (hu c List.mem_cons_self) hl
    refine ⟨la', ?_, h2⟩
    rw [List.cons_append, qs_z_s, if_neg (fun q => by rw [q.2.2] at hla; cases hla), h1]
    rfl
theorem qs_z_u {u l : List Nat} {la e : Nat} (hu : qv_u u) (hla : pc_dg la = false) (hl : pc_dg (l.headD e) = false) : ∃ la', qs_z (u ++ l) la e = qv_z u ++ qs_z l la' e := by
  rcases hu with ⟨c, rfl, h1, h2⟩ | ⟨hne, hlen, hd⟩
  · refine ⟨c, ?_⟩
    have : qv_z [c] = [c] := by
      show (if c = 48 ∧ ([] : List Nat) ≠ [] then _ else [c]) = _
      rw [if_neg (fun q => q.2 rfl)]
    rw [this]
    show (if c = 48 ∧ _ then _ else _) = _
    rw [if_neg (fun q => by have := q.1; omega)]
    rfl
  · clear hlen
    induction u with
    | nil => exact absurd rfl hne
    | cons c u ih =>
      have hu : ∀ c, c ∈ u → pc_dg c = true := fun c hc => hd c (List.mem_cons_of_mem _ hc)
      have hh : pc_dg ((u ++ l).headD e) = true ↔ u ≠ [] := by
        cases u with
        | nil =>
          rw [List.nil_append, hl]
          simp
        | cons d u =>
          rw [List.cons_append]
          exact ⟨fun _ q => (by cases q), fun _ => hu d List.mem_cons_self⟩
      rw [List.cons_append, qs_z_s, qv_z_s]
      by_cases hc : c = 48 ∧ u ≠ []
      · rw [if_pos ⟨hc.1, hh.mpr hc.2, hla⟩, if_pos hc]
        exact ih hc.2 hu
      · rw [if_neg (fun q => hc ⟨q.1, hh.mp q.2.1⟩), if_neg hc]
        obtain ⟨la', h1, -⟩ := qs_z_d u l c e hu (hd c List.mem_cons_self) hl
        exact ⟨la', by rw [h1]; rfl⟩
theorem qs_z_o {l : List Nat} {e : Nat} (hl : pc_dg (l.headD e) = false) : ∀ (o : List (Nat × List Nat)) (la : Nat), (∀ x, x ∈ o → pc_op x.1 = true ∧ qv_u x.2) → ∃ la', qs_z (qv_o o ++ l) la e = qv_o (qv_zo o) ++ qs_z l la' e
  | [], la, _ => ⟨la, rfl⟩
  | k :: o, la, ho => by
    obtain ⟨k1, k2⟩ := ho k List.mem_cons_self
    have ho' : ∀ x, x ∈ o → pc_op x.1 = true ∧ qv_u x.2 := fun x hx => ho x (List.mem_cons_of_mem _ hx)
    have e1 : qv_o (k :: o) ++ l = k.1 :: (k.2 ++ (qv_o o ++ l)) := by
      show k.1 :: (k.2 ++ qv_o o) ++ l = _
      rw [List.cons_append, List.append_assoc]
    have hl' : pc_dg ((qv_o o ++ l).headD e) = false := by
      cases o with
      | nil => exact hl
      | cons x o => exact pc_op_dg (ho' x List.mem_cons_self).1
    obtain ⟨la1, a1⟩ := qs_z_u (la := k.1) k2 (pc_op_dg k1) hl'
    obtain ⟨la2, a2⟩ := qs_z_o hl o la1 ho'
    refine ⟨la2, ?_⟩
    have := pc_op_i.mp k1
    rw [e1, qs_z_s, if_neg (fun q => by have := q.1; omega), a1, a2]
    show _ = (k.1 :: (qv_z k.2 ++ qv_o (qv_zo o))) ++ qs_z l la2 e
    rw [List.cons_append, List.append_assoc]
theorem qs_z_t {u l : List Nat} {o : List (Nat × List Nat)} {la e : Nat} (hk : qv_k u o) (hla : pc_dg la = false) (hl : pc_dg (l.headD e) = false) : ∃ la', qs_z (qv_t u o ++ l) la e = qv_t (qv_z u) (qv_zo o) ++ qs_z l la' e := by
  have hl' : pc_dg ((qv_o o ++ l).headD e) = false := by
    cases o with
    | nil => exact hl
    | cons x o => exact pc_op_dg (hk.2 x List.mem_cons_self).1
  obtain ⟨la1, a1⟩ := qs_z_u hk.1 hla hl'
  obtain ⟨la2, a2⟩ := qs_z_o hl o la1 hk.2
  refine ⟨la2, ?_⟩
  unfold qv_t
  rw [List.append_assoc, a1, a2, List.append_assoc]
theorem pc_rl_dg {c : Nat} (h : pc_rl c = true) : pc_dg c = false := by
  rcases pc_rl_i.mp h with rfl | rfl | rfl | rfl <;> rfl
/-- a comparison without its zeros -/
theorem qs_z_c {u : List Nat} {o : List (Nat × List Nat)} {r : Nat} {u' : List Nat} {o' : List (Nat × List Nat)} {la e : Nat} (h1 : qv_k u o) (h2 : qv_k u' o') (h3 : pc_rl r = true) (hla : pc_dg la = false) (he : pc_dg e = false) : qs_z (qv_t u o ++ r :: qv_t u' o') la e = qv_t (qv_z u) (qv_zo o) ++ r :: qv_t (qv_z u') (qv_zo o') := by
  obtain ⟨la1, a1⟩ := qs_z_t (l := r :: qv_t u' o') (e := e) h1 hla (pc_rl_dg h3)
  obtain ⟨la2, a2⟩ := qs_z_t (l := []) (la := r) (e := e) h2 (pc_rl_dg h3) he
  rw [a1]
  congr 1
  show (if r = 48 ∧ _ then _ else r :: qs_z (qv_t u' o') r e) = _
  have := pc_rl_i.mp h3
  rw [if_neg (fun q => by have := q.1; omega)]
  rw [List.append_nil] at a2
  rw [a2]
  show _ = r :: (qv_t (qv_z u') (qv_zo o'))
  rw [show qs_z [] la2 e = [] from rfl, List.append_nil]
