/-! Pure: rows of letters, lists of properties -/
def px_end (t : List Nat) (w : Bool) : Nat → Nat → Nat
  | 0, q => q
  | n + 1, q => if q < t.length ∧ pc_al (t.getD q 0) w = true then px_end t w n (q + 1) else q
/-- where the row from q ends -/
def px_re (t : List Nat) (w : Bool) (q : Nat) : Nat := px_end t w t.length q
theorem px_end_le {t : List Nat} {w : Bool} : ∀ (n q : Nat), q ≤ px_end t w n q
  | 0, q => Nat.le_refl _
  | n + 1, q => by
    unfold px_end
    split
    · exact Nat.le_trans (Nat.le_succ q) (px_end_le n (q + 1))
    · exact Nat.le_refl _
theorem px_end_max {t : List Nat} {w : Bool} : ∀ (n q : Nat), px_end t w n q ≤ max q t.length
  | 0, q => Nat.le_max_left _ _
  | n + 1, q => by
    unfold px_end
    split
    next h => 
      have := px_end_max (t := t) (w := w) n (q + 1)
      omega
    next => exact Nat.le_max_left _ _
/-- with fuel enough the fuel doesn't count -/
theorem px_end_fuel {t : List Nat} {w : Bool} : ∀ (n m q : Nat), t.length ≤ q + n → t.length ≤ q + m → px_end t w n q = px_end t w m q
  | 0, 0, q, _, _ => rfl
  | 0, m + 1, q, h1, _ => by
    unfold px_end
    rw [if_neg (by omega)]
  | n + 1, 0, q, _, h2 => by
    unfold px_end
    rw [if_neg (by omega)]
  | n + 1, m + 1, q, h1, h2 => by
    unfold px_end
    split
    · exact px_end_fuel n m (q + 1) (by omega) (by omega)
    · rfl
/-- a list of properties, from p on, with those that were read: is it one, what it holds, does it end in * -/
def px_ls (t : List Nat) (w : Bool) : Nat → Nat → (Nat → Option Nat) → Bool × (Nat → Option Nat) × Bool
  | 0, _, P => (false, P, false)
  | n + 1, p, P =>
    if w = true ∧ p + 1 = t.length ∧ t.getD p 0 = 42 then (true, P, true)
    else if pc_sm (t.getD p 0) = true ∧ t.getD (p + 1) 0 = 61 then
      if (P (t.getD p 0 - 97)).isSome = true then (false, P, false)
      else if px_re t w (p + 2) < p + 3 ∨ p + 6 < px_re t w (p + 2) then (false, va_up P (t.getD p 0 - 97) (some p), false)
      else if px_re t w (p + 2) = t.length then (true, va_up P (t.getD p 0 - 97) (some p), false)
      else if t.getD (px_re t w (p + 2)) 0 = 44 then px_ls t w n (px_re t w (p + 2) + 1) (va_up P (t.getD p 0 - 97) (some p))
      else (false, va_up P (t.getD p 0 - 97) (some p), false)
    else (false, P, false)
/-- numbers for places: -1 where there is none -/
def px_w (W : Nat → Int32) (P : Nat → Option Nat) : Prop := ∀ k, k < 26 → (P k = none ∧ W k = -1) ∨ ∃ p, P k = some p ∧ p ≤ 60 ∧ W k = nI p
theorem px_w_up {W : Nat → Int32} {P : Nat → Option Nat} {c p : Nat} (h : px_w W P) (hp : p ≤ 60) : px_w (upd W c (nI p)) (va_up P c (some p)) := by
  intro k hk
  by_cases hkc : k = c
  · subst hkc
    exact Or.inr ⟨p, by simp [va_up], hp, by simp [upd]⟩
  · simp only [va_up, upd, if_neg hkc]
    exact h k hk
theorem px_getD_ge {t : List Nat} {i : Nat} (h : t.length ≤ i) : t.getD i 0 = 0 := by
  rw [List.getD_eq_getElem?_getD, List.getElem?_eq_none h]
  rfl
