/-! Pure: what is a query, with its form and its answer: the least that is kept by these rules -/
def qv_z : List Nat → List Nat
  | [] => []
  | c :: u => if c = 48 ∧ u ≠ [] then qv_z u else c :: u
def qv_zo (o : List (Nat × List Nat)) : List (Nat × List Nat) := o.map (fun x => (x.1, qv_z x.2))
def qv_a (E : Nat → Option Int32) (u : List Nat) (o : List (Nat × List Nat)) (r : Nat) (u' : List Nat) (o' : List (Nat × List Nat)) : Nat := if (qv_v E id u' o' (qv_v E id u o false).2).2 = true then 2 else if qx_cm (qv_v E id u o false).1 r (qv_v E id u' o' (qv_v E id u o false).2).1 = true then 1 else 0
def qq_nd (b j e : Nat) : Bool := if b = 33 then !(j == 0) else j == 124 && (b == 38 || e == 38)
abbrev qq_R : Type := Nat → List Nat → (Nat → Nat → List Nat) → Nat → Nat → ((Nat → Option Int32) → Nat) → Prop
def qq_c (R : qq_R) : Prop :=
  (∀ u o r u' o', qv_k u o → qv_k u' o' → pc_rl r = true → R 0 (qv_t u o ++ r :: qv_t u' o') (fun _ _ => qv_t (qv_z u) (qv_zo o) ++ r :: qv_t (qv_z u') (qv_zo o')) 0 0 (fun E => qv_a E u o r u' o'))
  ∧ (∀ s f j k A, R 0 s f j k A → R 0 (33 :: s) (fun _ e => 33 :: f 33 e) 0 0 (fun E => qx_ng (A E)))
  ∧ (∀ s f j k A, R 2 s f j k A → R 0 (40 :: (s ++ [41])) (fun b e => if qq_nd b j e = true then 40 :: (f 40 41 ++ [41]) else f 40 41) j 0 A)
  ∧ (∀ s f j k A s' f' j' k' A', R 1 s f j k A → R 1 s' f' j' k' A' → R 1 (s ++ 38 :: s') (fun b e => f b 38 ++ 38 :: f' 38 e) 38 38 (fun E => if A E = 1 then A' E else A E))
  ∧ (∀ s f j k A s' f' j' k' A', R 2 s f j k A → R 2 s' f' j' k' A' → R 2 (s ++ 124 :: s') (fun b e => f b 124 ++ 124 :: f' 124 e) 124 124 (fun E => if A E = 0 then A' E else A E))
  ∧ (∀ lv lv' s f j k A, R lv s f j k A → lv ≤ lv' → R lv' s f j k A)
def QQ (lv : Nat) (s : List Nat) (f : Nat → Nat → List Nat) (j k : Nat) (A : (Nat → Option Int32) → Nat) : Prop := ∀ R : qq_R, qq_c R → R lv s f j k A
theorem QQ_c : qq_c QQ := by
  refine ⟨?_, ?_, ?_, ?_, ?_, ?_⟩
  · intro u o r u' o' h1 h2 h3 R hR
    exact hR.1 u o r u' o' h1 h2 h3
  · intro s f j k A h R hR
    exact hR.2.1 s f j k A (h R hR)
  · intro s f j k A h R hR
    exact hR.2.2.1 s f j k A (h R hR)
  · intro s f j k A s' f' j' k' A' h h' R hR
    exact hR.2.2.2.1 s f j k A s' f' j' k' A' (h R hR) (h' R hR)
  · intro s f j k A s' f' j' k' A' h h' R hR
    exact hR.2.2.2.2.1 s f j k A s' f' j' k' A' (h R hR) (h' R hR)
  · intro lv lv' s f j k A h hl R hR
    exact hR.2.2.2.2.2 lv lv' s f j k A (h R hR) hl
theorem QQ.cmp {u : List Nat} {o : List (Nat × List Nat)} {r : Nat} {u' : List Nat} {o' : List (Nat × List Nat)} (h1 : qv_k u o) (h2 : qv_k u' o') (h3 : pc_rl r = true) : QQ 0 (qv_t u o ++ r :: qv_t u' o') (fun _ _ => qv_t (qv_z u) (qv_zo o) ++ r :: qv_t (qv_z u') (qv_zo o')) 0 0 (fun E => qv_a E u o r u' o') := QQ_c.1 u o r u' o' h1 h2 h3
section QR
variable {lv : Nat} {s : List Nat} {f : Nat → Nat → List Nat} {j k : Nat} {A : (Nat → Option Int32) → Nat} {s' : List Nat} {f' : Nat → Nat → List Nat} {j' k' : Nat} {A' : (Nat → Option Int32) → Nat}
theorem QQ.neg (h : QQ 0 s f j k A) : QQ 0 (33 :: s) (fun _ e => 33 :: f 33 e) 0 0 (fun E => qx_ng (A E)) := QQ_c.2.1 s f j k A h
theorem QQ.par (h : QQ 2 s f j k A) : QQ 0 (40 :: (s ++ [41])) (fun b e => if qq_nd b j e = true then 40 :: (f 40 41 ++ [41]) else f 40 41) j 0 A := QQ_c.2.2.1 s f j k A h
theorem QQ.and (h : QQ 1 s f j k A) (h' : QQ 1 s' f' j' k' A') : QQ 1 (s ++ 38 :: s') (fun b e => f b 38 ++ 38 :: f' 38 e) 38 38 (fun E => if A E = 1 then A' E else A E) := QQ_c.2.2.2.1 s f j k A s' f' j' k' A' h h'
theorem QQ.or (h : QQ 2 s f j k A) (h' : QQ 2 s' f' j' k' A') : QQ 2 (s ++ 124 :: s') (fun b e => f b 124 ++ 124 :: f' 124 e) 124 124 (fun E => if A E = 0 then A' E else A E) := QQ_c.2.2.2.2.1 s f j k A s' f' j' k' A' h h'
theorem QQ.up (h : QQ lv s f j k A) {lv' : Nat} (hl : lv ≤ lv') : QQ lv' s f j k A := QQ_c.2.2.2.2.2 lv lv' s f j k A h hl
/-- by the rules, each with what it speaks of -/
theorem QQ.ind (h : QQ lv s f j k A) {M : qq_R} (hM : qq_c (fun lv s f j k A => QQ lv s f j k A ∧ M lv s f j k A)) : M lv s f j k A := (h _ hM).2
/-- no joint: it is one part -/
theorem QQ.down (h : QQ lv s f j k A) : (k = 0 → QQ 0 s f j k A) ∧ (k ≠ 124 → QQ 1 s f j k A) := by
  refine h.ind (M := fun lv s f j k A => (k = 0 → QQ 0 s f j k A) ∧ (k ≠ 124 → QQ 1 s f j k A)) ⟨?_, ?_, ?_, ?_, ?_, ?_⟩
  · intro u o r u' o' h1 h2 h3
    exact ⟨QQ.cmp h1 h2 h3, fun _ => QQ.cmp h1 h2 h3, fun _ => (QQ.cmp h1 h2 h3).up (Nat.zero_le _)⟩
  · intro s f j k A h
    exact ⟨h.1.neg, fun _ => h.1.neg, fun _ => h.1.neg.up (Nat.zero_le _)⟩
  · intro s f j k A h
    exact ⟨h.1.par, fun _ => h.1.par, fun _ => h.1.par.up (Nat.zero_le _)⟩
  · intro s f j k A s' f' j' k' A' h h'
    exact ⟨h.1.and h'.1, fun q => (by cases q), fun _ => h.1.and h'.1⟩
  · intro s f j k A s' f' j' k' A' h h'
    exact ⟨h.1.or h'.1, fun q => (by cases q), fun q => absurd rfl q⟩
  · intro lv lv' s f j k A h hl
    exact ⟨h.1.up hl, h.2⟩
end QR
/-! zeros -/
theorem qv_z_u {u : List Nat} (hu : qv_u u) : qv_u (qv_z u) := by
  rcases hu with ⟨c, rfl, h1, h2⟩ | ⟨hne, hlen, hd⟩
  · left
    refine ⟨c, ?_, h1, h2⟩
    show (if c = 48 ∧ ([] : List Nat) ≠ [] then _ else [c]) = _
    rw [if_neg (fun q => q.2 rfl)]
  · right
    induction u with
    | nil => exact absurd rfl hne
    | cons c u ih =>
      unfold qv_z
      by_cases hc : c = 48 ∧ u ≠ []
      · rw [if_pos hc]
        exact ih hc.2 (Nat.le_of_succ_le hlen) (fun c hq => hd c (List.mem_cons_of_mem _ hq))
      · rw [if_neg hc]
        exact ⟨hne, hlen, hd⟩
theorem nI_48 : (0 : Int32) * 10 + (nI 48 - 48) = 0 := by decide
theorem qv_z_n : ∀ u : List Nat, qv_n 0 (qv_z u) = qv_n 0 u
  | [] => rfl
  | c :: u => by
    unfold qv_z
    by_cases hc : c = 48 ∧ u ≠ []
    · rw [if_pos hc, qv_z_n u, hc.1]
      show _ = qv_n ((0 : Int32) * 10 + (nI 48 - 48)) u
      rw [nI_48]
    · rw [if_neg hc]
theorem qv_z_e {E : Nat → Option Int32} {u : List Nat} (hu : qv_u u) : qv_e E (qv_z u) = qv_e E u := by
  rcases hu with ⟨c, rfl, h1, h2⟩ | ⟨hne, hlen, hd⟩
  · have : qv_z [c] = [c] := by
      show (if c = 48 ∧ ([] : List Nat) ≠ [] then _ else [c]) = _
      rw [if_neg (fun q => q.2 rfl)]
    rw [this]
  · have key : ∀ u : List Nat, (∀ c, c ∈ u → pc_dg c = true) → ¬ (97 ≤ u.headD 0 ∧ u.headD 0 ≤ 101) := by
      intro u hu
      cases u with
      | nil => decide
      | cons c u =>
        have := pc_dg_i.mp (hu c List.mem_cons_self)
        show ¬ (97 ≤ c ∧ c ≤ 101)
        omega
    have key2 : ∀ u : List Nat, (∀ c, c ∈ u → pc_dg c = true) → ∀ c, c ∈ qv_z u → pc_dg c = true := by
      intro u
      induction u with
      | nil =>
        intro _ c hc
        cases hc
      | cons c u ih =>
        intro hu
        unfold qv_z
        by_cases hc : c = 48 ∧ u ≠ []
        · rw [if_pos hc]
          exact ih (fun c hq => hu c (List.mem_cons_of_mem _ hq))
        · rw [if_neg hc]
          exact hu
    unfold qv_e
    rw [if_neg (key u hd), if_neg (key _ (key2 u hd)), qv_z_n]
theorem qv_z_k {u : List Nat} {o : List (Nat × List Nat)} (h : qv_k u o) : qv_k (qv_z u) (qv_zo o) := by
  refine ⟨qv_z_u h.1, fun x hx => ?_⟩
  obtain ⟨y, hy, rfl⟩ := List.mem_map.mp hx
  exact ⟨(h.2 y hy).1, qv_z_u (h.2 y hy).2⟩
theorem qv_z_f {E : Nat → Option Int32} {z : Int32 → Int32} : ∀ (o : List (Nat × List Nat)) (s : Int32) (p : Bool) (x : Int32) (b : Bool), (∀ x, x ∈ o → pc_op x.1 = true ∧ qv_u x.2) → qv_f E z (qv_zo o) s p x b = qv_f E z o s p x b
  | [], s, p, x, b, _ => rfl
  | k :: o, s, p, x, b, h => by
    have hk := qv_z_e (E := E) (h k List.mem_cons_self).2
    have ih := fun s p x b => qv_z_f (E := E) (z := z) o s p x b (fun x hx => h x (List.mem_cons_of_mem _ hx))
    show qv_f E z ((k.1, qv_z k.2) :: qv_zo o) s p x b = _
    unfold qv_f
    dsimp only
    rw [hk]
    simp only [ih]
theorem qv_z_v {E : Nat → Option Int32} {z : Int32 → Int32} {u : List Nat} {o : List (Nat × List Nat)} {b : Bool} (h : qv_k u o) : qv_v E z (qv_z u) (qv_zo o) b = qv_v E z u o b := by
  unfold qv_v
  rw [qv_z_e h.1, qv_z_f _ _ _ _ _ h.2]
theorem qv_z_a {E : Nat → Option Int32} {u : List Nat} {o : List (Nat × List Nat)} {r : Nat} {u' : List Nat} {o' : List (Nat × List Nat)} (h1 : qv_k u o) (h2 : qv_k u' o') : qv_a E (qv_z u) (qv_zo o) r (qv_z u') (qv_zo o') = qv_a E u o r u' o' := by
  unfold qv_a
  rw [qv_z_v h1, qv_z_v h2]
/-- where a form stands -/
def qq_ctx (lv b e : Nat) : Prop := (lv = 0 → b = 33) ∧ (lv = 1 → b = 38 ∨ e = 38 ∨ b = 33)
/-- a form is a query of the same answer -/
theorem QQ.form {lv : Nat} {s : List Nat} {f : Nat → Nat → List Nat} {j k : Nat} {A : (Nat → Option Int32) → Nat} (h : QQ lv s f j k A) : ∀ w, lv ≤ w → ∀ b e, qq_ctx w b e → ∃ f' j' k', QQ w (f b e) f' j' k' A ∧ (b = 40 → e = 41 → k' = j) := by
  refine h.ind (M := fun lv s f j k A => ∀ w, lv ≤ w → ∀ b e, qq_ctx w b e → ∃ f' j' k', QQ w (f b e) f' j' k' A ∧ (b = 40 → e = 41 → k' = j)) ⟨?_, ?_, ?_, ?_, ?_, ?_⟩
  · intro u o r u' o' h1 h2 h3
    refine ⟨QQ.cmp h1 h2 h3, fun w hw b e _ => ?_⟩
    have hz := QQ.cmp (qv_z_k h1) (qv_z_k h2) h3
    have ha : (fun E => qv_a E (qv_z u) (qv_zo o) r (qv_z u') (qv_zo o')) = (fun E => qv_a E u o r u' o') := funext (fun E => qv_z_a h1 h2)
    rw [ha] at hz
    exact ⟨_, _, _, hz.up (Nat.zero_le _), fun _ _ => rfl⟩
  · intro s f j k A h
    refine ⟨h.1.neg, fun w hw b e _ => ?_⟩
    obtain ⟨f', j', k', g1, -⟩ := h.2 0 (Nat.le_refl _) 33 e ⟨fun _ => rfl, fun q => (by cases q)⟩
    exact ⟨_, _, _, g1.neg.up (Nat.zero_le _), fun _ _ => rfl⟩
  · intro s f j k A h
    refine ⟨h.1.par, fun w hw b e hx => ?_⟩
    obtain ⟨f', j', k', g1, g2⟩ := h.2 2 (Nat.le_refl _) 40 41 ⟨fun q => (by cases q), fun q => (by cases q)⟩
    have g2 := g2 rfl rfl
    subst g2
    dsimp only
    by_cases hn : qq_nd b k' e = true
    · rw [if_pos hn]
      refine ⟨_, _, _, g1.par.up (Nat.zero_le _), fun q1 q2 => ?_⟩
      subst q1
      subst q2
      unfold qq_nd at hn
      simp at hn
    · rw [if_neg hn]
      have hd := g1.down
      refine ⟨f', j', k', ?_, fun _ _ => rfl⟩
      by_cases hb : b = 33
      · unfold qq_nd at hn
        rw [if_pos hb] at hn
        have hk : k' = 0 := by simpa using hn
        exact (hd.1 hk).up (Nat.zero_le _)
      · unfold qq_nd at hn
        rw [if_neg hb] at hn
        obtain ⟨c0, c1⟩ := hx
        by_cases w0 : w = 0
        · exact absurd (c0 w0) hb
        by_cases w1 : w = 1
        · subst w1
          refine hd.2 (fun q => hn ?_)
          rcases c1 rfl with q1 | q1 | q1
          · rw [q, q1]
            rfl
          · rw [q, q1]
            simp
          · exact absurd q1 hb
        · exact g1.up (by omega)
  · intro s f j k A s' f' j' k' A' h h'
    refine ⟨h.1.and h'.1, fun w hw b e hx => ?_⟩
    obtain ⟨f1, j1, k1, g1, -⟩ := h.2 1 (Nat.le_refl _) b 38 ⟨fun q => (by cases q), fun _ => Or.inr (Or.inl rfl)⟩
    obtain ⟨f2, j2, k2, g2, -⟩ := h'.2 1 (Nat.le_refl _) 38 e ⟨fun q => (by cases q), fun _ => Or.inl rfl⟩
    exact ⟨_, _, _, (g1.and g2).up hw, fun _ _ => rfl⟩
  · intro s f j k A s' f' j' k' A' h h'
    refine ⟨h.1.or h'.1, fun w hw b e hx => ?_⟩
    obtain ⟨f1, j1, k1, g1, -⟩ := h.2 2 (Nat.le_refl _) b 124 ⟨fun q => (by cases q), fun q => (by cases q)⟩
    obtain ⟨f2, j2, k2, g2, -⟩ := h'.2 2 (Nat.le_refl _) 124 e ⟨fun q => (by cases q), fun q => (by cases q)⟩
    exact ⟨_, _, _, (g1.or g2).up hw, fun _ _ => rfl⟩
  · intro lv lv' s f j k A h hl
    exact ⟨h.1.up hl, fun w hw b e hx => h.2 w (Nat.le_trans hl hw) b e hx⟩
