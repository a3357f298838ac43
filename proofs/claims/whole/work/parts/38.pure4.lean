/-! Pure: what the reference reads is what the class reads -/
theorem pc_al_w {c : Nat} (h1 : ¬ c = 42) (h2 : ¬ c = 63) : pc_al c false = pc_al c true := by
  have e1 : (c == 63) = false := by simp [h2]
  have e2 : (c == 42) = false := by simp [h1]
  unfold pc_al
  rw [e1, e2]
  simp
theorem pc_al_n {c : Nat} (h : pc_al c false = true) : ¬ c = 42 ∧ ¬ c = 63 := by
  constructor
  · intro q
    subst q
    revert h
    decide
  · intro q
    subst q
    revert h
    decide
theorem pc_al_58 {w : Bool} : pc_al 58 w = false := by cases w <;> rfl
theorem px_re_w {t : List Nat} {q : Nat} (hq : q ≤ t.length) (h : ∀ i, q ≤ i → i < t.length → ¬ t.getD i 0 = 42 ∧ ¬ t.getD i 0 = 63) : px_re t false q = px_re t true q := by
  have hm := px_re_max (t := t) (w := true) (q := q)
  refine px_re_eq px_re_ge (fun i a b => ?_) (by omega) ?_
  · obtain ⟨c1, c2⟩ := px_re_al a b
    obtain ⟨d1, d2⟩ := h i a c1
    exact ⟨c1, by rw [pc_al_w d1 d2]; exact c2⟩
  · by_cases he : px_re t true q = t.length
    · exact Or.inl he
    · have hlt : px_re t true q < t.length := by omega
      obtain ⟨d1, d2⟩ := h _ px_re_ge hlt
      exact Or.inr (by rw [pc_al_w d1 d2]; exact px_re_stop hlt)
theorem px_re_w' {t : List Nat} {q : Nat} (h : ∀ i, q ≤ i → i < t.length → ¬ t.getD i 0 = 42 ∧ ¬ t.getD i 0 = 63) : px_re t false q = px_re t true q := by
  by_cases hq : q ≤ t.length
  · exact px_re_w hq h
  · have key : ∀ w, px_re t w q = q := by
      intro w
      unfold px_re
      cases hl : t.length with
      | zero => rfl
      | succ n =>
        unfold px_end
        rw [if_neg (by omega)]
    rw [key, key]
theorem px_ls_w {t : List Nat} : ∀ (n p : Nat) (P : Nat → Option Nat), (∀ i, p ≤ i → i < t.length → ¬ t.getD i 0 = 42 ∧ ¬ t.getD i 0 = 63) → px_ls t false n p P = px_ls t true n p P
  | 0, _, _, _ => rfl
  | n + 1, p, P, h => by
    have h0 : ¬ (true = true ∧ p + 1 = t.length ∧ t.getD p 0 = 42) := fun q => (h p (Nat.le_refl _) (by omega)).1 q.2.2
    have hr : px_re t false (p + 2) = px_re t true (p + 2) := px_re_w' (fun i a b => h i (by omega) b)
    have hge := px_re_ge (t := t) (w := true) (q := p + 2)
    unfold px_ls
    rw [if_neg h0, if_neg (fun q => by cases q.1), hr, px_ls_w n (px_re t true (p + 2) + 1) _ (fun i a b => h i (by omega) b)]
theorem px_ls_no {t : List Nat} : ∀ (n p : Nat) (P : Nat → Option Nat), (px_ls t false n p P).1 = true → ∀ i, p ≤ i → i < t.length → ¬ t.getD i 0 = 42 ∧ ¬ t.getD i 0 = 63
  | 0, _, _, h => by cases h
  | n + 1, p, P, h => by
    intro i hi hl
    unfold px_ls at h
    rw [if_neg (fun q => by cases q.1)] at h
    by_cases h1 : pc_sm (t.getD p 0) = true ∧ t.getD (p + 1) 0 = 61
    · rw [if_pos h1] at h
      by_cases h2 : (P (t.getD p 0 - 97)).isSome = true
      · rw [if_pos h2] at h
        cases h
      rw [if_neg h2] at h
      by_cases h3 : px_re t false (p + 2) < p + 3 ∨ p + 6 < px_re t false (p + 2)
      · rw [if_pos h3] at h
        cases h
      rw [if_neg h3] at h
      have near : i < px_re t false (p + 2) → ¬ t.getD i 0 = 42 ∧ ¬ t.getD i 0 = 63 := by
        intro hlt
        by_cases i0 : i = p
        · subst i0
          obtain ⟨k1, k2⟩ := pc_sm_i.mp h1.1
          omega
        by_cases i1 : i = p + 1
        · subst i1
          rw [h1.2]
          decide
        exact pc_al_n (px_re_al (t := t) (w := false) (q := p + 2) (by omega) hlt).2
      by_cases h4 : px_re t false (p + 2) = t.length
      · exact near (by omega)
      rw [if_neg h4] at h
      by_cases h5 : t.getD (px_re t false (p + 2)) 0 = 44
      · rw [if_pos h5] at h
        by_cases hlt : i < px_re t false (p + 2)
        · exact near hlt
        by_cases he : i = px_re t false (p + 2)
        · rw [he, h5]
          decide
        · exact px_ls_no n _ _ h i (by omega) hl
      · rw [if_neg h5] at h
        cases h
    · rw [if_neg h1] at h
      cases h
theorem px_col_re {t : List Nat} {w : Bool} (h2 : px_re t w 0 < t.length) (h3 : t.getD (px_re t w 0) 0 = 58) : px_col t = px_re t w 0 := px_col_eq t _ (by omega) (fun i hi q => by
  have := (px_re_al (t := t) (w := w) (q := 0) (Nat.zero_le i) hi).2
  rw [q, pc_al_58] at this
  cases this) (Or.inr h3)
theorem px_rd_true {t : List Nat} : px_rd t true = px_pa t := by
  rw [Bool.eq_iff_iff, px_rd_i, px_pa_i]
  constructor
  · rintro ⟨h1, h2, -, h4, h5⟩
    refine ⟨by omega, by omega, by rw [h4]; exact px_col_58 t h1, ?_⟩
    unfold px_pl
    rw [h4]
    exact h5
  · rintro ⟨h1, h2, h3, h4⟩
    have hc := px_col_re h2 h3
    refine ⟨by omega, by omega, Or.inl rfl, hc.symm, ?_⟩
    rw [hc]
    exact h4
theorem px_nm_i {t : List Nat} : px_nm t = true ↔ 0 < px_re t true 0 ∧ ∀ i, i < t.length → ¬ t.getD i 0 = 42 ∧ ¬ t.getD i 0 = 63 := by
  unfold px_nm
  simp only [Bool.and_eq_true, Nat.blt, Nat.ble_eq, Nat.succ_le, px_no_i]
  constructor
  · rintro ⟨a, b, c⟩
    exact ⟨a, fun i hi => ⟨b i hi, c i hi⟩⟩
  · rintro ⟨a, b⟩
    exact ⟨a, fun i hi => (b i hi).1, fun i hi => (b i hi).2⟩
theorem px_rd_no {t : List Nat} (h : px_rd t false = true) : ∀ i, i < t.length → ¬ t.getD i 0 = 42 ∧ ¬ t.getD i 0 = 63 := by
  obtain ⟨h1, h2, h3, h4, h5⟩ := px_rd_i.mp h
  intro i hi
  by_cases hc : i < px_col t
  · exact pc_al_n (px_re_al (t := t) (w := false) (q := 0) (Nat.zero_le i) (by omega)).2
  · by_cases he : i = px_col t
    · rw [he, px_col_58 t h1]
      decide
    · exact px_ls_no _ _ _ h5 i (by omega) hi
theorem px_rd_false {t : List Nat} : px_rd t false = (px_pa t && px_nm t) := by
  rw [Bool.eq_iff_iff, Bool.and_eq_true, px_pa_i, px_nm_i]
  constructor
  · intro h
    have hno := px_rd_no h
    obtain ⟨h1, h2, h3, h4, h5⟩ := px_rd_i.mp h
    have hr : px_re t false 0 = px_re t true 0 := px_re_w' (fun i _ b => hno i b)
    rw [hr] at h4
    have h3 : 1 ≤ px_col t := by
      rcases h3 with q | q
      · cases q
      · exact q
    refine ⟨⟨by omega, by omega, by rw [h4]; exact px_col_58 t h1, ?_⟩, by omega, hno⟩
    unfold px_pl
    rw [h4, ← px_ls_w _ _ _ (fun i _ b => hno i b)]
    exact h5
  · rintro ⟨⟨h1, h2, h3, h4⟩, h6, hno⟩
    have hc := px_col_re h2 h3
    have hr : px_re t false 0 = px_re t true 0 := px_re_w' (fun i _ b => hno i b)
    refine px_rd_i.mpr ⟨by omega, by omega, Or.inr (by omega), by omega, ?_⟩
    rw [px_ls_w _ _ _ (fun i _ b => hno i b), hc]
    exact h4
/-- the form, from what the reference read -/
theorem px_fo_rd {t : List Nat} {w : Bool} (h : px_rd t w = true) : px_fo t = px_form t (px_col t) (px_ls t w 60 (px_col t + 1) (fun _ => none)).2.1 (px_ls t w 60 (px_col t + 1) (fun _ => none)).2.2 ∧ px_pa t = true := by
  cases w with
  | true =>
    have hp := h
    rw [px_rd_true] at hp
    obtain ⟨-, -, -, h4, -⟩ := px_rd_i.mp h
    refine ⟨?_, hp⟩
    unfold px_fo px_pl
    rw [h4]
  | false =>
    have hp := h
    rw [px_rd_false, Bool.and_eq_true] at hp
    have hno := px_rd_no h
    obtain ⟨-, -, -, h4, -⟩ := px_rd_i.mp h
    have hr : px_re t false 0 = px_re t true 0 := px_re_w' (fun i _ b => hno i b)
    rw [hr] at h4
    refine ⟨?_, hp.1⟩
    unfold px_fo px_pl
    rw [h4, px_ls_w _ _ _ (fun i _ b => hno i b)]
/-- the places that the reference read -/
theorem px_rd_gd {t : List Nat} {w : Bool} (h : px_rd t w = true) : ∀ k p, (px_ls t w 60 (px_col t + 1) (fun _ => none)).2.1 k = some p → px_gd t true k p := by
  have h5 := (px_rd_i.mp h).2.2.2.2
  intro k p hk
  have hg := px_ls_gd _ _ _ h5 (fun k q hq => by cases hq) k p hk
  cases w with
  | true => exact hg
  | false => exact (px_gd_w hg).1
