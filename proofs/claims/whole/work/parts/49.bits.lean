/-! Pure: bits; what a pattern stands for -/
def bt (x : Int32) (j : Nat) : Bool := x.toBitVec.getLsbD j
theorem bt_or {x z : Int32} {j : Nat} : bt (x ||| z) j = (bt x j || bt z j) := by
  unfold bt
  rw [Int32.toBitVec_or, BitVec.getLsbD_or]
theorem bt_sh (x : Int32) {L : Nat} (hL : L < 8) : (x >>> (nI L &&& 31)).toBitVec = x.toBitVec.sshiftRight L := by
  have key : ∀ L, L < 8 → ((nI L &&& 31).toBitVec.smod 32).toNat = L := by decide
  rw [Int32.toBitVec_shiftRight]
  unfold BitVec.sshiftRight'
  rw [key L hL]
theorem bt_one (v : Int32) : (v &&& 1 = 1) ↔ bt v 0 = true := by
  unfold bt
  rw [← Int32.toBitVec_inj, Int32.toBitVec_and]
  have h1 : (1 : Int32).toBitVec = 1#32 := rfl
  rw [h1, BitVec.and_one_eq_setWidth_ofBool_getLsbD]
  cases v.toBitVec.getLsbD 0 <;> decide
theorem bt_test (x : Int32) {L : Nat} (hL : L < 8) : ((x >>> (nI L &&& 31)) &&& 1 = 1) ↔ bt x L = true := by
  rw [bt_one]
  unfold bt
  rw [bt_sh x hL, BitVec.getLsbD_sshiftRight]
  simp
  intro hq
  omega
theorem bt_shl {k j : Nat} (hk : k < 8) (hj : j < 8) : bt (1 <<< (nI k &&& 31)) j = decide (j = k) := by
  have key : ∀ k, k < 8 → ∀ j, j < 8 → bt (1 <<< (nI k &&& 31)) j = decide (j = k) := by decide
  exact key k hk j hj
theorem bt_shl2 {k j : Nat} (hk : k < 7) (hj : j < 8) : bt (2 <<< (nI k &&& 31)) j = decide (j = k + 1) := by
  have key : ∀ k, k < 7 → ∀ j, j < 8 → bt (2 <<< (nI k &&& 31)) j = decide (j = k + 1) := by decide
  exact key k hk j hj
theorem bt_0 {j : Nat} : bt 0 j = false := by
  unfold bt
  show (0#32).getLsbD j = false
  simp
theorem bt_1 {j : Nat} (hj : j < 8) : bt 1 j = decide (j = 0) := by
  have key : ∀ j, j < 8 → bt 1 j = decide (j = 0) := by decide
  exact key j hj
/-- x ||| -x: the lowest bit of x and all above it -/
theorem bt_star (x : Int32) {j : Nat} (hj : j < 32) : bt (x ||| -x) j = true ↔ ∃ i, i ≤ j ∧ bt x i = true := by
  rw [bt_or]
  unfold bt
  rw [Int32.toBitVec_neg, BitVec.getLsbD_neg]
  constructor
  · intro h
    by_cases h0 : x.toBitVec.getLsbD j = true
    · exact ⟨j, Nat.le_refl _, h0⟩
    · have h0 : x.toBitVec.getLsbD j = false := by simpa using h0
      rw [h0] at h
      simp only [Bool.false_or, Bool.false_bne, Bool.and_eq_true, decide_eq_true_eq, Bool.false_xor] at h
      obtain ⟨-, i, hi, hb⟩ := h
      exact ⟨i, by omega, hb⟩
  · rintro ⟨i, hi, hb⟩
    by_cases h0 : x.toBitVec.getLsbD j = true
    · rw [h0]
      rfl
    · have h0 : x.toBitVec.getLsbD j = false := by simpa using h0
      have hne : i ≠ j := fun q => by rw [q, h0] at hb; cases hb
      rw [h0]
      simp only [Bool.false_or, Bool.false_xor, Bool.and_eq_true, decide_eq_true_eq]
      exact ⟨hj, i, by omega, hb⟩
/-- one more character c of the pattern, from what those before can stand for -/
def px_Gs (c : Nat) (ro : Nat → Nat) (g : Nat → Bool) : Nat → Bool
  | 0 => c == 42 && g 0
  | j + 1 => if c = 42 then g (j + 1) || px_Gs c ro g j else (c == 63 || c == ro j) && g j
/-- can the first i characters of the pattern stand for the first j of the row? -/
def px_G (pa ro : Nat → Nat) : Nat → Nat → Bool
  | 0 => fun j => j == 0
  | i + 1 => px_Gs (pa i) ro (px_G pa ro i)
theorem px_Gs_star {ro : Nat → Nat} {g : Nat → Bool} : ∀ j, px_Gs 42 ro g j = true ↔ ∃ i, i ≤ j ∧ g i = true
  | 0 => by
    show (true && g 0) = true ↔ _
    rw [Bool.true_and]
    exact ⟨fun h => ⟨0, Nat.le_refl _, h⟩, fun ⟨i, hi, h⟩ => by rw [Nat.le_zero.mp hi] at h; exact h⟩
  | j + 1 => by
    unfold px_Gs
    rw [if_pos rfl, Bool.or_eq_true, px_Gs_star j]
    constructor
    · rintro (h | ⟨i, hi, h⟩)
      · exact ⟨j + 1, Nat.le_refl _, h⟩
      · exact ⟨i, by omega, h⟩
    · rintro ⟨i, hi, h⟩
      by_cases he : i = j + 1
      · rw [he] at h
        exact Or.inl h
      · exact Or.inr ⟨i, by omega, h⟩
theorem px_Gs_0 {c : Nat} {ro : Nat → Nat} {g : Nat → Bool} (hc : ¬ c = 42) : px_Gs c ro g 0 = false := by
  unfold px_Gs
  simp [hc]
theorem px_Gs_s {c j : Nat} {ro : Nat → Nat} {g : Nat → Bool} (hc : ¬ c = 42) : px_Gs c ro g (j + 1) = ((c == 63 || c == ro j) && g j) := by
  show (if c = 42 then g (j + 1) || px_Gs c ro g j else (c == 63 || c == ro j) && g j) = _
  rw [if_neg hc]
