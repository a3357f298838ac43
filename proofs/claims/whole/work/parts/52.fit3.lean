/-! Pure: the reference's set of places is the class's, said from the other side -/
/-- place i of the pattern behind k characters of the row: before a star it stays there -/
def px_T (pa ro : Nat → Nat) (m i k : Nat) : Bool := if i < m ∧ pa i = 42 then px_G pa ro (i + 1) k else px_G pa ro i k
theorem px_G_00 {pa ro : Nat → Nat} : px_G pa ro 0 0 = true := rfl
theorem px_G_0s {pa ro : Nat → Nat} {k : Nat} : px_G pa ro 0 (k + 1) = false := rfl
theorem px_G_s0 {pa ro : Nat → Nat} {i : Nat} : px_G pa ro (i + 1) 0 = (pa i == 42 && px_G pa ro i 0) := rfl
theorem px_G_star {pa ro : Nat → Nat} {i k : Nat} (h : pa i = 42) : px_G pa ro (i + 1) (k + 1) = (px_G pa ro i (k + 1) || px_G pa ro (i + 1) k) := by
  show px_Gs (pa i) ro (px_G pa ro i) (k + 1) = (px_G pa ro i (k + 1) || px_Gs (pa i) ro (px_G pa ro i) k)
  rw [h]
  rfl
theorem px_G_ss {pa ro : Nat → Nat} {i k : Nat} (h : ¬ pa i = 42) : px_G pa ro (i + 1) (k + 1) = ((pa i == 63 || pa i == ro k) && px_G pa ro i k) := px_Gs_s h
theorem px_T_0 {pa ro : Nat → Nat} {m : Nat} {g : Nat → Bool} (hg : ∀ i, i ≤ m → g i = (i == 0)) : ∀ i, i ≤ m → px_sp pa g i = px_T pa ro m i 0
  | 0, hi => by
    unfold px_sp px_T
    rw [hg 0 hi]
    by_cases h : 0 < m ∧ pa 0 = 42
    · rw [if_pos h, px_G_s0, h.2]
      rfl
    · rw [if_neg h]
      rfl
  | i + 1, hi => by
    have e1 : px_sp pa g (i + 1) = px_G pa ro (i + 1) 0 := by
      unfold px_sp
      rw [hg (i + 1) hi, px_T_0 (ro := ro) hg i (by omega), px_G_s0]
      show (false || _) = _
      rw [Bool.false_or]
      by_cases h : pa i = 42
      · unfold px_T
        rw [if_pos ⟨by omega, h⟩, px_G_s0, h]
        rfl
      · rw [beq_eq_false_iff_ne.mpr h]
        rfl
    rw [e1]
    unfold px_T
    by_cases h : i + 1 < m ∧ pa (i + 1) = 42
    · rw [if_pos h, px_G_s0 (i := i + 1), h.2]
      rfl
    · rw [if_neg h]
/-- one character of the row, before the stars are spread -/
def px_nx (pa ro : Nat → Nat) (m k : Nat) (g : Nat → Bool) : Nat → Bool
  | 0 => decide (0 < m) && (pa 0 == 42 && g 0)
  | i + 1 => (decide (i + 1 < m) && (pa (i + 1) == 42 && g (i + 1))) || (!(pa i == 42) && ((pa i == 63 || pa i == ro k) && g i))
theorem px_T_s {pa ro : Nat → Nat} {m k : Nat} {g : Nat → Bool} (hg : ∀ i, i ≤ m → g i = px_T pa ro m i k) : ∀ i, i ≤ m → px_sp pa (px_nx pa ro m k g) i = px_T pa ro m i (k + 1)
  | 0, hi => by
    show (decide (0 < m) && (pa 0 == 42 && g 0)) = _
    rw [hg 0 hi]
    unfold px_T
    by_cases h : 0 < m ∧ pa 0 = 42
    · rw [if_pos h, if_pos h, decide_eq_true h.1, px_G_star h.2, px_G_0s, h.2]
      rfl
    · rw [if_neg h, if_neg h, px_G_0s]
      by_cases hm : 0 < m
      · rw [beq_eq_false_iff_ne.mpr (fun q => h ⟨hm, q⟩), Bool.false_and, Bool.and_false]
      · rw [decide_eq_false hm, Bool.false_and]
  | i + 1, hi => by
    have e1 : px_sp pa (px_nx pa ro m k g) (i + 1) = ((decide (i + 1 < m) && (pa (i + 1) == 42 && g (i + 1))) || px_G pa ro (i + 1) (k + 1)) := by
      show (((decide (i + 1 < m) && (pa (i + 1) == 42 && g (i + 1))) || (!(pa i == 42) && ((pa i == 63 || pa i == ro k) && g i))) || (pa i == 42 && px_sp pa (px_nx pa ro m k g) i)) = _
      rw [px_T_s hg i (by omega), hg i (by omega), Bool.or_assoc]
      congr 1
      by_cases h : pa i = 42
      · unfold px_T
        rw [if_pos ⟨by omega, h⟩, if_pos ⟨by omega, h⟩, h]
        rfl
      · unfold px_T
        rw [if_neg (fun q => h q.2), if_neg (fun q => h q.2), beq_eq_false_iff_ne.mpr h, px_G_ss h]
        simp
    rw [e1, hg (i + 1) hi]
    unfold px_T
    by_cases h : i + 1 < m ∧ pa (i + 1) = 42
    · rw [if_pos h, if_pos h, decide_eq_true h.1, px_G_star h.2, h.2]
      show (true && (true && _) || _) = _
      rw [Bool.true_and, Bool.true_and, Bool.or_comm]
    · rw [if_neg h, if_neg h]
      by_cases hm : i + 1 < m
      · rw [beq_eq_false_iff_ne.mpr (fun q => h ⟨hm, q⟩), Bool.false_and, Bool.and_false, Bool.false_or]
      · rw [decide_eq_false hm, Bool.false_and, Bool.false_or]
theorem px_T_m {pa ro : Nat → Nat} {m k : Nat} : px_T pa ro m m k = px_G pa ro m k := if_neg (fun q => absurd q.1 (Nat.lt_irrefl _))
