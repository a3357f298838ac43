/-! Pure: what a list's reading says of its places; the form is as long as the text; names are patterns without ? and * -/
theorem px_end_al {t : List Nat} {w : Bool} : ∀ (n q i : Nat), q ≤ i → i < px_end t w n q → i < t.length ∧ pc_al (t.getD i 0) w = true
  | 0, q, i, h1, h2 => by
    have h2 : i < q := h2
    omega
  | n + 1, q, i, h1, h2 => by
    unfold px_end at h2
    split at h2
    next hc =>
      by_cases hi : i = q
      · subst hi
        exact hc
      · exact px_end_al n (q + 1) i (by omega) h2
    next => omega
/-- it stops at the end or at a letter that isn't allowed -/
theorem px_end_stop {t : List Nat} {w : Bool} : ∀ (n q : Nat), t.length ≤ q + n → px_end t w n q < t.length → pc_al (t.getD (px_end t w n q) 0) w = false
  | 0, q, h1, h2 => by
    have h2 : q < t.length := h2
    omega
  | n + 1, q, h1, h2 => by
    unfold px_end at h2 ⊢
    split
    next hc =>
      rw [if_pos hc] at h2
      exact px_end_stop n (q + 1) (by omega) h2
    next hc =>
      rw [if_neg hc] at h2
      cases hb : pc_al (t.getD q 0) w with
      | false => rfl
      | true => exact absurd ⟨h2, hb⟩ hc
theorem px_re_al {t : List Nat} {w : Bool} {q i : Nat} (h1 : q ≤ i) (h2 : i < px_re t w q) : i < t.length ∧ pc_al (t.getD i 0) w = true := px_end_al _ _ _ h1 h2
theorem px_re_stop {t : List Nat} {w : Bool} {q : Nat} (h : px_re t w q < t.length) : pc_al (t.getD (px_re t w q) 0) w = false := px_end_stop _ _ (by omega) h
theorem px_re_ge {t : List Nat} {w : Bool} {q : Nat} : q ≤ px_re t w q := px_end_le _ _
theorem px_re_max {t : List Nat} {w : Bool} {q : Nat} : px_re t w q ≤ max q t.length := px_end_max _ _
/-- the row ends where all before is allowed and this isn't -/
theorem px_re_eq {t : List Nat} {w : Bool} {q c : Nat} (h0 : q ≤ c) (h1 : ∀ i, q ≤ i → i < c → i < t.length ∧ pc_al (t.getD i 0) w = true) (h2 : c ≤ t.length) (h3 : c = t.length ∨ pc_al (t.getD c 0) w = false) : px_re t w q = c := by
  have a1 := px_re_ge (t := t) (w := w) (q := q)
  have a2 := px_re_max (t := t) (w := w) (q := q)
  by_cases hlt : px_re t w q < c
  · have b1 := (h1 _ a1 hlt)
    have b2 := px_re_stop (t := t) (w := w) (q := q) b1.1
    rw [b2] at b1
    cases b1.2
  · by_cases hgt : c < px_re t w q
    · have b1 := px_re_al (t := t) (w := w) h0 hgt
      rcases h3 with h3 | h3
      · omega
      · rw [h3] at b1
        cases b1.2
    · omega
/-- a place of a key, as a list's reading gives it -/
def px_gd (t : List Nat) (w : Bool) (k p : Nat) : Prop := pc_sm (t.getD p 0) = true ∧ t.getD p 0 = 97 + k ∧ t.getD (p + 1) 0 = 61 ∧ p + 3 ≤ px_re t w (p + 2) ∧ px_re t w (p + 2) ≤ p + 6 ∧ px_re t w (p + 2) ≤ t.length ∧ (px_re t w (p + 2) = t.length ∨ t.getD (px_re t w (p + 2)) 0 = 44)
theorem px_ls_gd {t : List Nat} {w : Bool} : ∀ (n p : Nat) (P : Nat → Option Nat), (px_ls t w n p P).1 = true → (∀ k q, P k = some q → px_gd t w k q) → ∀ k q, (px_ls t w n p P).2.1 k = some q → px_gd t w k q
  | 0, p, P, h, hP => by cases h
  | n + 1, p, P, h, hP => by
    unfold px_ls at h ⊢
    by_cases h0 : w = true ∧ p + 1 = t.length ∧ t.getD p 0 = 42
    · rw [if_pos h0] at h ⊢
      exact hP
    rw [if_neg h0] at h ⊢
    by_cases h1 : pc_sm (t.getD p 0) = true ∧ t.getD (p + 1) 0 = 61
    rotate_left
    · rw [if_neg h1] at h
      cases h
    rw [if_pos h1] at h ⊢
    by_cases h2 : (P (t.getD p 0 - 97)).isSome = true
    · rw [if_pos h2] at h
      cases h
    rw [if_neg h2] at h ⊢
    by_cases h3 : px_re t w (p + 2) < p + 3 ∨ p + 6 < px_re t w (p + 2)
    · rw [if_pos h3] at h
      cases h
    rw [if_neg h3] at h ⊢
    have hm := px_re_max (t := t) (w := w) (q := p + 2)
    have hk := pc_sm_i.mp h1.1
    have good : (px_re t w (p + 2) = t.length ∨ t.getD (px_re t w (p + 2)) 0 = 44) → ∀ k q, va_up P (t.getD p 0 - 97) (some p) k = some q → px_gd t w k q := by
      intro he k q hq
      by_cases hkc : k = t.getD p 0 - 97
      · subst hkc
        simp only [va_up, if_true] at hq
        cases hq
        exact ⟨h1.1, by omega, h1.2, by omega, by omega, by omega, he⟩
      · simp only [va_up, if_neg hkc] at hq
        exact hP k q hq
    by_cases h4 : px_re t w (p + 2) = t.length
    · rw [if_pos h4]
      exact good (Or.inl h4)
    rw [if_neg h4] at h ⊢
    by_cases h5 : t.getD (px_re t w (p + 2)) 0 = 44
    · rw [if_pos h5] at h ⊢
      exact px_ls_gd n _ _ h (good (Or.inr h5))
    · rw [if_neg h5] at h
      cases h
/-- the places' lengths, with a comma each -/
def px_sm (t : List Nat) (w : Bool) (P : Nat → Option Nat) : Nat → Nat
  | 0 => 0
  | j + 1 => px_sm t w P j + (match P j with
    | none => 0
    | some p => px_re t w (p + 2) - p + 1)
theorem px_sm_up {t : List Nat} {w : Bool} {P : Nat → Option Nat} {c p : Nat} (hc : P c = none) : ∀ j, px_sm t w (va_up P c (some p)) j = px_sm t w P j + (if c < j then px_re t w (p + 2) - p + 1 else 0)
  | 0 => by simp [px_sm]
  | j + 1 => by
    unfold px_sm
    rw [px_sm_up hc j]
    by_cases hj : j = c
    · subst hj
      simp [va_up, hc]
    · simp only [va_up, if_neg hj]
      by_cases h1 : c < j
      · rw [if_pos h1, if_pos (by omega)]
        omega
      · rw [if_neg h1, if_neg (by omega)]
        omega
theorem px_ls_sm {t : List Nat} {w : Bool} : ∀ (n p : Nat) (P : Nat → Option Nat), (px_ls t w n p P).1 = true → px_sm t w (px_ls t w n p P).2.1 26 + p = px_sm t w P 26 + (if (px_ls t w n p P).2.2 = true then t.length - 1 else t.length + 1)
  | 0, p, P, h => by cases h
  | n + 1, p, P, h => by
    unfold px_ls at h ⊢
    by_cases h0 : w = true ∧ p + 1 = t.length ∧ t.getD p 0 = 42
    · rw [if_pos h0] at h ⊢
      simp
      omega
    rw [if_neg h0] at h ⊢
    by_cases h1 : pc_sm (t.getD p 0) = true ∧ t.getD (p + 1) 0 = 61
    rotate_left
    · rw [if_neg h1] at h
      cases h
    rw [if_pos h1] at h ⊢
    by_cases h2 : (P (t.getD p 0 - 97)).isSome = true
    · rw [if_pos h2] at h
      cases h
    rw [if_neg h2] at h ⊢
    by_cases h3 : px_re t w (p + 2) < p + 3 ∨ p + 6 < px_re t w (p + 2)
    · rw [if_pos h3] at h
      cases h
    rw [if_neg h3] at h ⊢
    have hn : P (t.getD p 0 - 97) = none := by
      cases hv : P (t.getD p 0 - 97) with
      | none => rfl
      | some x => rw [hv] at h2; exact absurd rfl h2
    have hk := pc_sm_i.mp h1.1
    have hup := px_sm_up (t := t) (w := w) (p := p) hn 26
    rw [if_pos (by omega)] at hup
    by_cases h4 : px_re t w (p + 2) = t.length
    · rw [if_pos h4]
      simp only [hup]
      rw [if_neg (by decide)]
      omega
    rw [if_neg h4] at h ⊢
    by_cases h5 : t.getD (px_re t w (p + 2)) 0 = 44
    · rw [if_pos h5] at h ⊢
      have := px_ls_sm n _ _ h
      omega
    · rw [if_neg h5] at h
      cases h
theorem px_sm_none {t : List Nat} {w : Bool} : ∀ j, px_sm t w (fun _ => none) j = 0
  | 0 => rfl
  | j + 1 => by
    unfold px_sm
    rw [px_sm_none j]
    rfl
theorem px_ord_sm {t : List Nat} {P : Nat → Option Nat} (hV : ∀ k q, P k = some q → q + 3 ≤ px_re t true (q + 2) ∧ px_re t true (q + 2) ≤ t.length) : ∀ j, (px_ord t P j).length + (if px_ord t P j = [] then 0 else 1) = px_sm t true P j
  | 0 => rfl
  | j + 1 => by
    have ih := px_ord_sm hV j
    cases h : P j with
    | none =>
      rw [px_ord_none h]
      unfold px_sm
      rw [h]
      exact ih
    | some p =>
      obtain ⟨v1, v2⟩ := hV j p h
      rw [px_ord_some h]
      unfold px_sm
      rw [h]
      have hne : ¬ px_ord t P j ++ ((if px_ord t P j = [] then [] else [44]) ++ px_seg t p (px_re t true (p + 2))) = [] := fun q => by
        have := congrArg List.length q
        rw [List.length_append, List.length_append, px_seg_len v2] at this
        simp only [List.length_nil] at this
        omega
      rw [if_neg hne, List.length_append, List.length_append, px_seg_len v2]
      show _ = px_sm t true P j + (px_re t true (p + 2) - p + 1)
      rw [← ih]
      by_cases hq : px_ord t P j = []
      · rw [if_pos hq, if_pos hq]
        simp only [List.length_nil]
        omega
      · rw [if_neg hq, if_neg hq]
        simp only [List.length_cons, List.length_nil]
        omega
/-- the form is as long as the text -/
theorem px_form_len {t : List Nat} {d : Nat} (hd : d < t.length) (h : (px_ls t true 60 (d + 1) (fun _ => none)).1 = true) : (px_form t d (px_ls t true 60 (d + 1) (fun _ => none)).2.1 (px_ls t true 60 (d + 1) (fun _ => none)).2.2).length = t.length := by
  have h1 := px_ls_sm 60 (d + 1) (fun _ => none) h
  have h2 := px_ls_gd 60 (d + 1) (fun _ => none) h (fun k q hq => by cases hq)
  rw [px_sm_none] at h1
  generalize px_ls t true 60 (d + 1) (fun _ => none) = G at h h1 h2 ⊢
  obtain ⟨ok, P, ob⟩ := G
  dsimp only at h h1 h2 ⊢
  have h3 := px_ord_sm (t := t) (P := P) (fun k q hq => ⟨(h2 k q hq).2.2.2.1, (h2 k q hq).2.2.2.2.2.1⟩) 26
  unfold px_form px_tail
  rw [List.length_append, List.length_append, px_seg_len (by omega)]
  cases ob with
  | true =>
    rw [if_pos rfl] at h1 ⊢
    by_cases hq : px_ord t P 26 = []
    · rw [if_pos hq] at h3 ⊢
      simp only [List.length_cons, List.length_nil]
      omega
    · rw [if_neg hq] at h3 ⊢
      simp only [List.length_cons, List.length_nil]
      omega
  | false =>
    rw [if_neg (by decide)] at h1 ⊢
    by_cases hq : px_ord t P 26 = []
    · rw [if_pos hq] at h3
      rw [hq] at h3 ⊢
      simp only [List.length_nil] at h3 ⊢
      omega
    · rw [if_neg hq] at h3
      simp only [List.length_nil]
      omega
