/-! Pure: what isQuery of the reference answers -/
def px_iq (t : List Nat) : Nat → Nat → Nat → Bool → Bool
  | 0, _, lv, b => b && lv == 0
  | n + 1, p, lv, b =>
    if p < t.length then
      if b = true then
        if t.getD p 0 = 41 then (if lv = 0 then false else px_iq t n (p + 1) (lv - 1) true)
        else if t.getD p 0 = 38 ∨ t.getD p 0 = 124 then px_iq t n (p + 1) lv false else false
      else if t.getD p 0 = 33 then px_iq t n (p + 1) lv false
      else if t.getD p 0 = 40 then px_iq t n (p + 1) (lv + 1) false
      else match px_ce t p with
        | none => false
        | some q => px_iq t n q lv true
    else b && lv == 0
theorem px_ce_lt {t : List Nat} {p e : Nat} (h : px_ce t p = some e) : p < e ∧ e ≤ t.length := by
  unfold px_ce at h
  cases hv : px_ve t p with
  | none =>
    rw [hv] at h
    cases h
  | some q =>
    rw [hv] at h
    dsimp only at h
    by_cases hr : pc_rl (t.getD q 0) = true
    · rw [if_pos hr] at h
      have a := px_ve_lt hv
      have b := px_ve_lt h
      exact ⟨by omega, b.2⟩
    · rw [if_neg hr] at h
      cases h
