/-! Pure: three runs over a query's text, step by step -/
/-- the letter before p -/
def qd_b (t : List Nat) (p : Nat) : Nat := if p = 0 then 0 else t.getD (p - 1) 0
theorem qd_b_s {t : List Nat} {p : Nat} : qd_b t (p + 1) = t.getD p 0 := by
  unfold qd_b
  rw [if_neg (by omega), Nat.add_sub_cancel]
theorem qd_last {o : List Nat} {c : Nat} : (o ++ [c]).getLastD 0 = c := by
  rw [List.getLastD_eq_getLast?, List.getLast?_append]
  rfl
/-- the letters of a comparison, one by one -/
theorem qs_run {t : List Nat} {W : Nat → List Nat → Prop} (plain : ∀ p o c, p < t.length → t.getD p 0 = c → c ≠ 40 → c ≠ 41 → W (p + 1) (if c = 48 ∧ pc_dg (t.getD (p + 1) 0) = true ∧ pc_dg (o.getLastD 0) = false then o else o ++ [c]) → W p o) : ∀ (cs rest o : List Nat) (p : Nat), (∀ c, c ∈ cs → qs_n c) → t.drop p = cs ++ rest → W (p + cs.length) (o ++ qs_z cs (o.getLastD 0) (rest.headD 0)) → W p o
  | [], rest, o, p, _, _, h => by
    rw [show qs_z [] (o.getLastD 0) (rest.headD 0) = [] from rfl, List.append_nil] at h
    exact h
  | c :: cs, rest, o, p, hn, e, h => by
    obtain ⟨g1, g2, g3⟩ := qd_cons e
    obtain ⟨n1, n2, -⟩ := hn c List.mem_cons_self
    have hh : t.getD (p + 1) 0 = cs.headD (rest.headD 0) := by
      rw [← qd_hd, g2]
      cases cs <;> rfl
    refine plain p o c g3 g1 n1 n2 ?_
    rw [hh]
    rw [qs_z_s, List.length_cons, show p + (cs.length + 1) = p + 1 + cs.length by omega] at h
    by_cases hc : c = 48 ∧ pc_dg (cs.headD (rest.headD 0)) = true ∧ pc_dg (o.getLastD 0) = false
    · rw [if_pos hc] at h ⊢
      exact qs_run plain cs rest o (p + 1) (fun c hc => hn c (List.mem_cons_of_mem _ hc)) g2 h
    · rw [if_neg hc] at h ⊢
      refine qs_run plain cs rest (o ++ [c]) (p + 1) (fun c hc => hn c (List.mem_cons_of_mem _ hc)) g2 ?_
      rw [qd_last, List.append_assoc]
      exact h
/-- what shorten writes -/
theorem QQ.short {t : List Nat} {W : Nat → List Nat → Prop} (plain : ∀ p o c, p < t.length → t.getD p 0 = c → c ≠ 40 → c ≠ 41 → W (p + 1) (if c = 48 ∧ pc_dg (t.getD (p + 1) 0) = true ∧ pc_dg (o.getLastD 0) = false then o else o ++ [c]) → W p o)
    (opn : ∀ p o s f j k A rest, t.drop p = 40 :: (s ++ (41 :: rest)) → QQ 2 s f j k A → W (p + 1) (if qq_nd (qd_b t p) j (rest.headD 0) = true then o ++ [40] else o) → W p o)
    (cls : ∀ p o s f j k A rest, t.drop p = 40 :: (s ++ (41 :: rest)) → QQ 2 s f j k A → W (p + 1 + s.length + 1) (if qq_nd (qd_b t p) j (rest.headD 0) = true then o ++ [41] else o) → W (p + 1 + s.length) o)
    {lv : Nat} {s : List Nat} {f : Nat → Nat → List Nat} {j k : Nat} {A : (Nat → Option Int32) → Nat} (h : QQ lv s f j k A) : ∀ p rest o, t.drop p = s ++ rest → pc_dg (rest.headD 0) = false → pc_dg (o.getLastD 0) = false → W (p + s.length) (o ++ f (qd_b t p) (rest.headD 0)) → W p o := by
  have one : ∀ p o c, p < t.length → t.getD p 0 = c → c ≠ 40 → c ≠ 41 → c ≠ 48 → W (p + 1) (o ++ [c]) → W p o := by
    intro p o c h1 h2 h3 h4 h5 hw
    refine plain p o c h1 h2 h3 h4 ?_
    rw [if_neg (fun q => h5 q.1)]
    exact hw
  have two : ∀ (c : Nat) (s : List Nat) (f : Nat → Nat → List Nat) (s' : List Nat) (f' : Nat → Nat → List Nat), c ≠ 40 → c ≠ 41 → pc_dg c = false → (∀ p rest o, t.drop p = s ++ rest → pc_dg (rest.headD 0) = false → pc_dg (o.getLastD 0) = false → W (p + s.length) (o ++ f (qd_b t p) (rest.headD 0)) → W p o) → (∀ p rest o, t.drop p = s' ++ rest → pc_dg (rest.headD 0) = false → pc_dg (o.getLastD 0) = false → W (p + s'.length) (o ++ f' (qd_b t p) (rest.headD 0)) → W p o) → ∀ p rest o, t.drop p = (s ++ c :: s') ++ rest → pc_dg (rest.headD 0) = false → pc_dg (o.getLastD 0) = false → W (p + (s ++ c :: s').length) (o ++ (f (qd_b t p) c ++ c :: f' c (rest.headD 0))) → W p o := by
    intro c s f s' f' c1 c2 c3 h h' p rest o e hr ho hw
    have e : t.drop p = s ++ (c :: (s' ++ rest)) := by rw [e]; simp
    obtain ⟨g1, g2, g3⟩ := qd_cons (qd_app e)
    refine h p _ o e c3 ho ?_
    refine one _ _ c g3 g1 c1 c2 (fun q => by rw [q] at c3; cases c3) ?_
    refine h' _ rest _ g2 hr (by rw [qd_last]; exact c3) ?_
    rw [qd_b_s, g1]
    have hl : (s ++ c :: s').length = s.length + 1 + s'.length := by simp; omega
    rw [hl, show p + (s.length + 1 + s'.length) = p + s.length + 1 + s'.length by omega] at hw
    show W _ (o ++ f (qd_b t p) c ++ [c] ++ f' c (rest.headD 0))
    have e3 : o ++ f (qd_b t p) c ++ [c] ++ f' c (rest.headD 0) = o ++ (f (qd_b t p) c ++ c :: f' c (rest.headD 0)) := by simp
    rw [e3]
    exact hw
  refine h.ind (M := fun lv s f j k A => ∀ p rest o, t.drop p = s ++ rest → pc_dg (rest.headD 0) = false → pc_dg (o.getLastD 0) = false → W (p + s.length) (o ++ f (qd_b t p) (rest.headD 0)) → W p o) ⟨?_, ?_, ?_, ?_, ?_, ?_⟩
  · intro u o r u' o' h1 h2 h3
    refine ⟨QQ.cmp h1 h2 h3, fun p rest ou e hr ho hw => ?_⟩
    refine qs_run plain _ rest ou p (qv_c_n h1 h2 h3) e ?_
    rw [qs_z_c h1 h2 h3 ho hr]
    exact hw
  · intro s f j k A h
    refine ⟨h.1.neg, fun p rest o e hr ho hw => ?_⟩
    obtain ⟨g1, g2, g3⟩ := qd_cons e
    refine one p o 33 g3 g1 (by decide) (by decide) (by decide) ?_
    refine h.2 (p + 1) rest _ g2 hr (by rw [qd_last]; rfl) ?_
    rw [qd_b_s, g1, List.append_assoc]
    rw [List.length_cons, show p + (s.length + 1) = p + 1 + s.length by omega] at hw
    exact hw
  · intro s f j k A h
    refine ⟨h.1.par, fun p rest o e hr ho hw => ?_⟩
    have e : t.drop p = 40 :: (s ++ (41 :: rest)) := by rw [e]; simp
    obtain ⟨g1, g2, g3⟩ := qd_cons e
    have hl : (40 :: (s ++ [41])).length = s.length + 2 := by simp
    rw [hl, show p + (s.length + 2) = p + 1 + s.length + 1 by omega] at hw
    dsimp only at hw
    refine opn p o s f j k A rest e h.1 ?_
    refine h.2 (p + 1) (41 :: rest) _ g2 rfl ?_ ?_
    · by_cases hn : qq_nd (qd_b t p) j (rest.headD 0) = true
      · rw [if_pos hn, qd_last]
        rfl
      · rw [if_neg hn]
        exact ho
    · refine cls p _ s f j k A rest e h.1 ?_
      rw [qd_b_s, g1]
      show W _ (if qq_nd (qd_b t p) j (rest.headD 0) = true then (if qq_nd (qd_b t p) j (rest.headD 0) = true then o ++ [40] else o) ++ f 40 41 ++ [41] else (if qq_nd (qd_b t p) j (rest.headD 0) = true then o ++ [40] else o) ++ f 40 41)
      by_cases hn : qq_nd (qd_b t p) j (rest.headD 0) = true
      · rw [if_pos hn] at hw
        rw [if_pos hn, if_pos hn]
        have e3 : o ++ [40] ++ f 40 41 ++ [41] = o ++ 40 :: (f 40 41 ++ [41]) := by simp
        rw [e3]
        exact hw
      · rw [if_neg hn] at hw
        rw [if_neg hn, if_neg hn]
        exact hw
  · intro s f j k A s' f' j' k' A' h h'
    exact ⟨h.1.and h'.1, two 38 s f s' f' (by decide) (by decide) rfl h.2 h'.2⟩
  · intro s f j k A s' f' j' k' A' h h'
    exact ⟨h.1.or h'.1, two 124 s f s' f' (by decide) (by decide) rfl h.2 h'.2⟩
  · intro lv lv' s f j k A h hl
    exact ⟨h.1.up hl, h.2⟩
theorem qd_last_app {o l : List Nat} {n : Nat} (h : n = o.length) : ((o ++ l).take n).getLastD 0 = o.getLastD 0 := by
  rw [h, List.take_left]
/-- what written writes: st = where the parentheses stand that are not closed yet -/
theorem QQ.wrote {t : List Nat} {W : Nat → List Nat → List Nat → Prop} (plain : ∀ p o st c, p < t.length → t.getD p 0 = c → c ≠ 40 → c ≠ 41 → W (p + 1) (if c = 48 ∧ pc_dg (t.getD (p + 1) 0) = true ∧ pc_dg (o.getLastD 0) = false then o else o ++ [c]) st → W p o st)
    (opn : ∀ p o st, p < t.length → t.getD p 0 = 40 → st.length < 8 → W (p + 1) (o ++ [40]) (o.length :: st) → W p o st)
    (cls : ∀ p o x st b j, p < t.length → t.getD p 0 = 41 → o.getLastD 0 = b → qs_j x 0 0 = j → qs_b x 0 → W (p + 1) (if qq_nd b j (t.getD (p + 1) 0) = true then o ++ 40 :: (x ++ [41]) else o ++ x) st → W p (o ++ 40 :: x) (o.length :: st))
    {lv : Nat} {s : List Nat} {f : Nat → Nat → List Nat} {j k : Nat} {A : (Nat → Option Int32) → Nat} (h : QQ lv s f j k A) : ∀ p rest o st, t.drop p = s ++ rest → pc_dg (rest.headD 0) = false → pc_dg (o.getLastD 0) = false → st.length + s.count 40 ≤ 8 → W (p + s.length) (o ++ f (o.getLastD 0) (rest.headD 0)) st → W p o st := by
  have one : ∀ p o st c, p < t.length → t.getD p 0 = c → c ≠ 40 → c ≠ 41 → c ≠ 48 → W (p + 1) (o ++ [c]) st → W p o st := by
    intro p o st c h1 h2 h3 h4 h5 hw
    refine plain p o st c h1 h2 h3 h4 ?_
    rw [if_neg (fun q => h5 q.1)]
    exact hw
  have two : ∀ (c : Nat) (s : List Nat) (f : Nat → Nat → List Nat) (s' : List Nat) (f' : Nat → Nat → List Nat), c ≠ 40 → c ≠ 41 → pc_dg c = false → (∀ p rest o st, t.drop p = s ++ rest → pc_dg (rest.headD 0) = false → pc_dg (o.getLastD 0) = false → st.length + s.count 40 ≤ 8 → W (p + s.length) (o ++ f (o.getLastD 0) (rest.headD 0)) st → W p o st) → (∀ p rest o st, t.drop p = s' ++ rest → pc_dg (rest.headD 0) = false → pc_dg (o.getLastD 0) = false → st.length + s'.count 40 ≤ 8 → W (p + s'.length) (o ++ f' (o.getLastD 0) (rest.headD 0)) st → W p o st) → ∀ p rest o st, t.drop p = (s ++ c :: s') ++ rest → pc_dg (rest.headD 0) = false → pc_dg (o.getLastD 0) = false → st.length + (s ++ c :: s').count 40 ≤ 8 → W (p + (s ++ c :: s').length) (o ++ (f (o.getLastD 0) c ++ c :: f' c (rest.headD 0))) st → W p o st := by
    intro c s f s' f' c1 c2 c3 h h' p rest o st e hr ho hct hw
    have e : t.drop p = s ++ (c :: (s' ++ rest)) := by rw [e]; simp
    obtain ⟨g1, g2, g3⟩ := qd_cons (qd_app e)
    rw [List.count_append, List.count_cons_of_ne c1] at hct
    refine h p _ o st e c3 ho (by omega) ?_
    refine one _ _ st c g3 g1 c1 c2 (fun q => by rw [q] at c3; cases c3) ?_
    refine h' _ rest _ st g2 hr (by rw [qd_last]; exact c3) (by omega) ?_
    rw [qd_last]
    have hl : (s ++ c :: s').length = s.length + 1 + s'.length := by simp; omega
    rw [hl, show p + (s.length + 1 + s'.length) = p + s.length + 1 + s'.length by omega] at hw
    show W _ (o ++ f (o.getLastD 0) c ++ [c] ++ f' c (rest.headD 0)) st
    have e3 : o ++ f (o.getLastD 0) c ++ [c] ++ f' c (rest.headD 0) = o ++ (f (o.getLastD 0) c ++ c :: f' c (rest.headD 0)) := by simp
    rw [e3]
    exact hw
  refine h.ind (M := fun lv s f j k A => ∀ p rest o st, t.drop p = s ++ rest → pc_dg (rest.headD 0) = false → pc_dg (o.getLastD 0) = false → st.length + s.count 40 ≤ 8 → W (p + s.length) (o ++ f (o.getLastD 0) (rest.headD 0)) st → W p o st) ⟨?_, ?_, ?_, ?_, ?_, ?_⟩
  · intro u o r u' o' h1 h2 h3
    refine ⟨QQ.cmp h1 h2 h3, fun p rest ou st e hr ho _ hw => ?_⟩
    refine qs_run (W := fun p o => W p o st) (fun p o c => plain p o st c) _ rest ou p (qv_c_n h1 h2 h3) e ?_
    rw [qs_z_c h1 h2 h3 ho hr]
    exact hw
  · intro s f j k A h
    refine ⟨h.1.neg, fun p rest o st e hr ho hct hw => ?_⟩
    obtain ⟨g1, g2, g3⟩ := qd_cons e
    rw [List.count_cons_of_ne (by decide)] at hct
    refine one p o st 33 g3 g1 (by decide) (by decide) (by decide) ?_
    refine h.2 (p + 1) rest _ st g2 hr (by rw [qd_last]; rfl) hct ?_
    rw [qd_last, List.append_assoc]
    rw [List.length_cons, show p + (s.length + 1) = p + 1 + s.length by omega] at hw
    exact hw
  · intro s f j k A h
    refine ⟨h.1.par, fun p rest o st e hr ho hct hw => ?_⟩
    have e : t.drop p = 40 :: (s ++ (41 :: rest)) := by rw [e]; simp
    obtain ⟨g1, g2, g3⟩ := qd_cons e
    obtain ⟨g4, g5, g6⟩ := qd_cons (qd_app g2)
    have hl : (40 :: (s ++ [41])).length = s.length + 2 := by simp
    rw [hl, show p + (s.length + 2) = p + 1 + s.length + 1 by omega] at hw
    dsimp only at hw
    have hct2 : st.length + (s.count 40 + 1) ≤ 8 := by
      rw [List.count_cons_self, List.count_append] at hct
      omega
    refine opn p o st g3 g1 (by omega) ?_
    refine h.2 (p + 1) (41 :: rest) _ _ g2 rfl (by rw [qd_last]; rfl) (by rw [List.length_cons]; omega) ?_
    obtain ⟨f2, j2, k2, q1, q2⟩ := h.1.form 2 (Nat.le_refl _) 40 41 ⟨fun q => (by cases q), fun q => (by cases q)⟩
    obtain ⟨q3, q4⟩ := q1.jf
    rw [q2 rfl rfl] at q3
    have e4 : o ++ [40] ++ f ((o ++ [40]).getLastD 0) ((41 :: rest).headD 0) = o ++ 40 :: f 40 41 := by
      rw [qd_last, List.append_assoc]
      rfl
    rw [e4]
    refine cls _ o (f 40 41) st _ j g6 g4 rfl q3 q4 ?_
    have e5 : t.getD (p + 1 + s.length + 1) 0 = rest.headD 0 := by rw [← qd_hd, g5]
    rw [e5]
    by_cases hn : qq_nd (o.getLastD 0) j (rest.headD 0) = true
    · rw [if_pos hn] at hw ⊢
      exact hw
    · rw [if_neg hn] at hw ⊢
      exact hw
  · intro s f j k A s' f' j' k' A' h h'
    exact ⟨h.1.and h'.1, two 38 s f s' f' (by decide) (by decide) rfl h.2 h'.2⟩
  · intro s f j k A s' f' j' k' A' h h'
    exact ⟨h.1.or h'.1, two 124 s f s' f' (by decide) (by decide) rfl h.2 h'.2⟩
  · intro lv lv' s f j k A h hl
    exact ⟨h.1.up hl, h.2⟩
theorem QQ.le2 {lv : Nat} {s : List Nat} {f : Nat → Nat → List Nat} {j k : Nat} {A : (Nat → Option Int32) → Nat} (h : QQ lv s f j k A) (E : Nat → Option Int32) : A E ≤ 2 := by
  refine h.ind (M := fun lv s f j k A => A E ≤ 2) ⟨?_, ?_, ?_, ?_, ?_, ?_⟩
  · intro u o r u' o' h1 h2 h3
    refine ⟨QQ.cmp h1 h2 h3, ?_⟩
    show qv_a E u o r u' o' ≤ 2
    unfold qv_a
    split
    · exact Nat.le_refl _
    · split <;> decide
  · intro s f j k A h
    refine ⟨h.1.neg, ?_⟩
    show qx_ng (A E) ≤ 2
    unfold qx_ng
    split <;> omega
  · intro s f j k A h
    exact ⟨h.1.par, h.2⟩
  · intro s f j k A s' f' j' k' A' h h'
    refine ⟨h.1.and h'.1, ?_⟩
    show (if A E = 1 then A' E else A E) ≤ 2
    split
    · exact h'.2
    · exact h.2
  · intro s f j k A s' f' j' k' A' h h'
    refine ⟨h.1.or h'.1, ?_⟩
    show (if A E = 0 then A' E else A E) ≤ 2
    split
    · exact h'.2
    · exact h.2
  · intro lv lv' s f j k A h hl
    exact ⟨h.1.up hl, h.2⟩
