/-! Pure: the run of truth -/
def qm_u (f : Nat → Bool) (k : Nat) (b : Bool) : Nat → Bool := fun i => if i = k then b else f i
theorem qm_s {f : Nat → Bool} {k : Nat} {b : Bool} : qm_u f k b k = b := if_pos rfl
theorem qm_n {f : Nat → Bool} {k i : Nat} {b : Bool} (h : i ≠ k) : qm_u f k b i = f i := if_neg h
/-- the same below w -/
def qm_e (w : Nat) (f g : Nat → Bool) : Prop := ∀ i, i < w → g i = f i
theorem qm_e_u {w k : Nat} {f : Nat → Bool} {b : Bool} (h : w ≤ k) : qm_e w f (qm_u f k b) := fun i hi => qm_n (by omega)
theorem qm_e_t {w : Nat} {f g k : Nat → Bool} (h1 : qm_e w f g) (h2 : qm_e w g k) : qm_e w f k := fun i hi => (h2 i hi).trans (h1 i hi)
theorem qm_e_l {w w' : Nat} {f g : Nat → Bool} (h : qm_e w f g) (hw : w' ≤ w) : qm_e w' f g := fun i hi => h i (by omega)
section QM
variable {t : List Nat} {E : Nat → Option Int32} {W : Nat → Nat → (Nat → Bool) → (Nat → Bool) → (Nat → Bool) → (Nat → Bool) → Prop} {H2 : Prop}
/-- behind a part of a single level or of & alone -/
def qm_1 (t : List Nat) (W : Nat → Nat → (Nat → Bool) → (Nat → Bool) → (Nat → Bool) → (Nat → Bool) → Prop) (H2 : Prop) (one : Prop) (s : List Nat) (a0 : Nat) : Prop := ∀ p rest w L a b tu, t.drop p = s ++ rest → qv_r rest → w + s.count 40 < 12 → (one ∨ tu w = false) →
  ((L w && !a w && b w) = true → (if tu w = true then qx_ng a0 else a0) = 2 → H2) →
  (∀ L' a' b' tu', qm_e w L L' → qm_e w a a' → qm_e w b b' → qm_e w tu tu' → L' w = L w → a' w = a w → tu' w = false → ((L w && !a w && b w) = true → (if tu w = true then qx_ng a0 else a0) ≠ 2 ∧ b' w = ((if tu w = true then qx_ng a0 else a0) == 1)) → (b w = false → b' w = false) → W (p + s.length) w L' a' b' tu') → W p w L a b tu
def qm_2 (t : List Nat) (W : Nat → Nat → (Nat → Bool) → (Nat → Bool) → (Nat → Bool) → (Nat → Bool) → Prop) (H2 : Prop) (s : List Nat) (a0 : Nat) : Prop := ∀ p rest w L a b tu, t.drop p = s ++ rest → qv_r rest → w + s.count 40 < 12 → tu w = false → b w = true →
  ((L w && !a w) = true → a0 = 2 → H2) →
  (∀ L' a' b' tu', qm_e w L L' → qm_e w a a' → qm_e w b b' → qm_e w tu tu' → L' w = L w → tu' w = false → ((L w && !a w) = true → a0 ≠ 2 ∧ (a' w || b' w) = (a0 == 1)) → (a w = true → a' w = true) → W (p + s.length) w L' a' b' tu') → W p w L a b tu
theorem qm_12 {one : Prop} {s : List Nat} {a0 : Nat} (h : qm_1 t W H2 one s a0) : qm_2 t W H2 s a0 := by
  intro p rest w L a b tu e hr hct htu hb h2 hw
  refine h p rest w L a b tu e hr hct (Or.inr htu) (fun q1 q2 => ?_) (fun L' a' b' tu' e1 e2 e3 e4 e5 e6 e7 e8 e9 => ?_)
  · rw [htu, if_neg (by decide)] at q2
    rw [hb, Bool.and_true] at q1
    exact h2 q1 q2
  · refine hw L' a' b' tu' e1 e2 e3 e4 e5 e7 (fun q => ?_) (fun q => by rw [e6]; exact q)
    rw [hb, Bool.and_true, htu, if_neg (by decide)] at e8
    obtain ⟨x1, x2⟩ := e8 q
    refine ⟨x1, ?_⟩
    rw [e6, x2]
    simp only [Bool.and_eq_true] at q
    have : a w = false := by simpa using q.2
    rw [this, Bool.false_or]
theorem qx_ng_2 {x : Nat} (h : x ≤ 2) : qx_ng (qx_ng x) = x := by
  unfold qx_ng
  rcases (by omega : x = 0 ∨ x = 1 ∨ x = 2) with rfl | rfl | rfl <;> decide
/-- what truth does -/
theorem QQ.truth
    (bang : ∀ p w L a b tu, p < t.length → t.getD p 0 = 33 → w < 12 → W (p + 1) w L a b (qm_u tu w (!tu w)) → W p w L a b tu)
    (opn : ∀ p w L a b tu, p < t.length → t.getD p 0 = 40 → w + 1 < 12 → W (p + 1) (w + 1) (qm_u L (w + 1) (L w && !a w && b w)) (qm_u a (w + 1) false) (qm_u b (w + 1) true) (qm_u tu (w + 1) false) → W p w L a b tu)
    (cls : ∀ p w L a b tu, p < t.length → t.getD p 0 = 41 → w + 1 < 12 → W (p + 1) w L a (qm_u b w (b w && ((a (w + 1) || b (w + 1)) != tu w))) (qm_u tu w false) → W p (w + 1) L a b tu)
    (ands : ∀ p w L a b tu, p < t.length → t.getD p 0 = 38 → w < 12 → W (p + 1) w L a b tu → W p w L a b tu)
    (ors : ∀ p w L a b tu, p < t.length → t.getD p 0 = 124 → w < 12 → W (p + 1) w L (qm_u a w (a w || b w)) (qm_u b w true) tu → W p w L a b tu)
    (comp : ∀ p w L a b tu u o r u' o' rest, t.drop p = (qv_t u o ++ r :: qv_t u' o') ++ rest → qv_k u o → qv_k u' o' → pc_rl r = true → qv_r rest → w < 12 → ((L w && !a w && b w) = true → qv_a E u o r u' o' = 2 → H2) → (∀ rr : Bool, (qv_a E u o r u' o' ≠ 2 → rr = (qv_a E u o r u' o' == 1)) → ((L w && !a w && b w) = true → qv_a E u o r u' o' ≠ 2) → W (p + (qv_t u o ++ r :: qv_t u' o').length) w L a (qm_u b w (b w && (rr != tu w))) (qm_u tu w false)) → W p w L a b tu)
    {lv : Nat} {s : List Nat} {f : Nat → Nat → List Nat} {j k : Nat} {A : (Nat → Option Int32) → Nat} (h : QQ lv s f j k A) : (lv ≤ 1 → qm_1 t W H2 (lv = 0) s (A E)) ∧ qm_2 t W H2 s (A E) := by
  refine h.ind (M := fun lv s f j k A => (lv ≤ 1 → qm_1 t W H2 (lv = 0) s (A E)) ∧ qm_2 t W H2 s (A E)) ⟨?_, ?_, ?_, ?_, ?_, ?_⟩
  · intro u o r u' o' h1 h2 h3
    have hq := QQ.cmp h1 h2 h3
    have hle := hq.le2 E
    have key : qm_1 t W H2 (0 = 0) (qv_t u o ++ r :: qv_t u' o') (qv_a E u o r u' o') := by
      intro p rest w L a b tu e hr hct _ hh2 hw
      refine comp p w L a b tu u o r u' o' rest e h1 h2 h3 hr (by omega) (fun q1 q2 => ?_) (fun rr q1 q2 => ?_)
      · refine hh2 q1 ?_
        rw [q2]
        split <;> rfl
      · refine hw L a _ _ (fun _ _ => rfl) (fun _ _ => rfl) (qm_e_u (Nat.le_refl _)) (qm_e_u (Nat.le_refl _)) rfl rfl qm_s (fun q => ?_) (fun q => by rw [qm_s, q]; rfl)
        have n2 := q2 q
        have hrr := q1 n2
        rw [qm_s]
        simp only [Bool.and_eq_true] at q
        rw [q.2, Bool.true_and, hrr]
        have hle : qv_a E u o r u' o' ≤ 2 := hle
        rcases (by omega : qv_a E u o r u' o' = 0 ∨ qv_a E u o r u' o' = 1) with q3 | q3 <;> rw [q3] <;> cases tu w <;> decide
    exact ⟨hq, fun _ => key, qm_12 key⟩
  · intro s f j k A h
    have hle := h.1.le2 E
    have key : qm_1 t W H2 (0 = 0) (33 :: s) (qx_ng (A E)) := by
      intro p rest w L a b tu e hr hct _ hh2 hw
      obtain ⟨g1, g2, g3⟩ := qd_cons e
      rw [List.count_cons_of_ne (by decide)] at hct
      refine bang p w L a b tu g3 g1 (by omega) ?_
      have ev : (if (qm_u tu w (!tu w)) w = true then qx_ng (A E) else A E) = (if tu w = true then qx_ng (qx_ng (A E)) else qx_ng (A E)) := by
        rw [qm_s, qx_ng_2 hle]
        cases tu w <;> rfl
      refine h.2.1 (by decide) (p + 1) rest w L a b _ g2 hr hct (Or.inl rfl) (fun q1 q2 => ?_) (fun L' a' b' tu' e1 e2 e3 e4 e5 e6 e7 e8 e9 => ?_)
      · rw [ev] at q2
        exact hh2 q1 q2
      · rw [ev] at e8
        have := hw L' a' b' tu' e1 e2 e3 (qm_e_t (qm_e_u (Nat.le_refl _)) e4) e5 e6 e7 e8 e9
        rw [List.length_cons, show p + (s.length + 1) = p + 1 + s.length by omega] at this
        exact this
    exact ⟨h.1.neg, fun _ => key, qm_12 key⟩
  · intro s f j k A h
    have hle := h.1.le2 E
    have key : qm_1 t W H2 (0 = 0) (40 :: (s ++ [41])) (A E) := by
      intro p rest w L a b tu e hr hct _ hh2 hw
      have e : t.drop p = 40 :: (s ++ (41 :: rest)) := by rw [e]; simp
      obtain ⟨g1, g2, g3⟩ := qd_cons e
      obtain ⟨g4, g5, g6⟩ := qd_cons (qd_app g2)
      have hl : (40 :: (s ++ [41])).length = s.length + 2 := by simp
      rw [List.count_cons_self, List.count_append] at hct
      refine opn p w L a b tu g3 g1 (by omega) ?_
      refine h.2.2 (p + 1) (41 :: rest) (w + 1) _ _ _ _ g2 ⟨rfl, rfl⟩ (by omega) qm_s qm_s (fun q1 q2 => ?_) (fun L' a' b' tu' e1 e2 e3 e4 e5 e7 e8 e9 => ?_)
      · rw [qm_s, qm_s] at q1
        refine hh2 (by simpa using q1) ?_
        rw [q2]
        split <;> rfl
      · rw [qm_s, qm_s] at e8
        have l1 : L' w = L w := (e1 w (by omega)).trans (qm_n (by omega))
        have l2 : a' w = a w := (e2 w (by omega)).trans (qm_n (by omega))
        have l3 : b' w = b w := (e3 w (by omega)).trans (qm_n (by omega))
        have l4 : tu' w = tu w := (e4 w (by omega)).trans (qm_n (by omega))
        refine cls (p + 1 + s.length) w L' a' b' tu' g6 g4 (by omega) ?_
        have := hw L' a' (qm_u b' w (b' w && ((a' (w + 1) || b' (w + 1)) != tu' w))) (qm_u tu' w false) (qm_e_t (qm_e_u (by omega)) (qm_e_l e1 (by omega))) (qm_e_t (qm_e_u (by omega)) (qm_e_l e2 (by omega))) (qm_e_t (qm_e_t (qm_e_u (by omega)) (qm_e_l e3 (by omega))) (qm_e_u (Nat.le_refl _))) (qm_e_t (qm_e_t (qm_e_u (by omega)) (qm_e_l e4 (by omega))) (qm_e_u (Nat.le_refl _))) l1 l2 qm_s (fun q => ?_) (fun q => by rw [qm_s, l3, q]; rfl)
        · rw [hl, show p + (s.length + 2) = p + 1 + s.length + 1 by omega] at this
          exact this
        · obtain ⟨x1, x2⟩ := e8 (by rw [q]; rfl)
          simp only [Bool.and_eq_true] at q
          rw [qm_s, l3, l4, q.2, Bool.true_and, x2]
          rcases (by omega : A E = 0 ∨ A E = 1) with q3 | q3 <;> rw [q3] <;> cases tu w <;> decide
    exact ⟨h.1.par, fun _ => key, qm_12 key⟩
  · intro s f j k A s' f' j' k' A' h h'
    have hle := h.1.le2 E
    have key : qm_1 t W H2 (1 = 0) (s ++ 38 :: s') (if A E = 1 then A' E else A E) := by
      intro p rest w L a b tu e hr hct hone hh2 hw
      have htu : tu w = false := by
        rcases hone with q | q
        · cases q
        · exact q
      rw [htu, if_neg (by decide)] at hh2 hw
      have e : t.drop p = s ++ (38 :: (s' ++ rest)) := by rw [e]; simp
      obtain ⟨g1, g2, g3⟩ := qd_cons (qd_app e)
      have hl : (s ++ 38 :: s').length = s.length + 1 + s'.length := by simp; omega
      rw [List.count_append, List.count_cons_of_ne (by decide)] at hct
      refine h.2.1 (by decide) p _ w L a b tu e ⟨rfl, rfl⟩ (by omega) (Or.inr htu) (fun q1 q2 => ?_) (fun L' a' b' tu' e1 e2 e3 e4 e5 e6 e7 e8 e9 => ?_)
      · rw [htu, if_neg (by decide)] at q2
        exact hh2 q1 (by rw [q2]; rfl)
      · rw [htu, if_neg (by decide)] at e8
        refine ands _ w L' a' b' tu' g3 g1 (by omega) ?_
        refine h'.2.1 (by decide) _ rest w L' a' b' tu' g2 hr (by omega) (Or.inr e7) (fun q1 q2 => ?_) (fun L2 a2 b2 tu2 d1 d2 d3 d4 d5 d6 d7 d8 d9 => ?_)
        · rw [e7, if_neg (by decide)] at q2
          rw [e5, e6] at q1
          simp only [Bool.and_eq_true] at q1
          have hb : b w = true := by
            cases hbw : b w with
            | true => rfl
            | false =>
              rw [e9 hbw] at q1
              cases q1.2
          have hlook : (L w && !a w && b w) = true := by
            simp only [Bool.and_eq_true]
            exact ⟨q1.1, hb⟩
          obtain ⟨x1, x2⟩ := e8 hlook
          rw [x2] at q1
          have hA : A E = 1 := by simpa using q1.2
          exact hh2 hlook (by rw [if_pos hA]; exact q2)
        · rw [e7, if_neg (by decide)] at d8
          have := hw L2 a2 b2 tu2 (qm_e_t e1 d1) (qm_e_t e2 d2) (qm_e_t e3 d3) (qm_e_t e4 d4) (d5.trans e5) (d6.trans e6) d7 (fun q => ?_) (fun q => d9 (e9 q))
          · rw [hl, show p + (s.length + 1 + s'.length) = p + s.length + 1 + s'.length by omega] at this
            exact this
          · obtain ⟨x1, x2⟩ := e8 q
            by_cases hA : A E = 1
            · rw [if_pos hA]
              refine d8 ?_
              rw [e5, e6, x2, hA]
              simp only [Bool.and_eq_true] at q ⊢
              exact ⟨q.1, rfl⟩
            · rw [if_neg hA]
              have hb' : b' w = false := by
                rw [x2]
                simp [hA]
              refine ⟨x1, ?_⟩
              rw [d9 hb']
              simp [hA]
    exact ⟨h.1.and h'.1, fun _ => key, qm_12 key⟩
  · intro s f j k A s' f' j' k' A' h h'
    have hle := h.1.le2 E
    refine ⟨h.1.or h'.1, fun q => absurd q (by decide), ?_⟩
    show qm_2 t W H2 (s ++ 124 :: s') (if A E = 0 then A' E else A E)
    intro p rest w L a b tu e hr hct htu hb hh2 hw
    have e : t.drop p = s ++ (124 :: (s' ++ rest)) := by rw [e]; simp
    obtain ⟨g1, g2, g3⟩ := qd_cons (qd_app e)
    have hl : (s ++ 124 :: s').length = s.length + 1 + s'.length := by simp; omega
    rw [List.count_append, List.count_cons_of_ne (by decide)] at hct
    refine h.2.2 p _ w L a b tu e ⟨rfl, rfl⟩ (by omega) htu hb (fun q1 q2 => ?_) (fun L' a' b' tu' e1 e2 e3 e4 e5 e7 e8 e9 => ?_)
    · exact hh2 q1 (by rw [q2]; rfl)
    · refine ors _ w L' a' b' tu' g3 g1 (by omega) ?_
      refine h'.2.2 _ rest w L' _ _ tu' g2 hr (by omega) e7 qm_s (fun q1 q2 => ?_) (fun L2 a2 b2 tu2 d1 d2 d3 d4 d5 d7 d8 d9 => ?_)
      · rw [qm_s, e5] at q1
        simp only [Bool.and_eq_true] at q1
        have ha : a w = false := by
          cases haw : a w with
          | false => rfl
          | true =>
            rw [e9 haw] at q1
            simp at q1
        have hlook : (L w && !a w) = true := by
          rw [ha, q1.1]
          rfl
        obtain ⟨x1, x2⟩ := e8 hlook
        rw [x2] at q1
        have hA : A E = 0 := by
          have : ¬ A E = 1 := by simpa using q1.2
          omega
        exact hh2 hlook (by rw [if_pos hA]; exact q2)
      · rw [qm_s] at d8 d9
        have := hw L2 a2 b2 tu2 (qm_e_t e1 d1) (qm_e_t (qm_e_t e2 (qm_e_u (Nat.le_refl _))) d2) (qm_e_t (qm_e_t e3 (qm_e_u (Nat.le_refl _))) d3) (qm_e_t e4 d4) (d5.trans e5) d7 (fun q => ?_) (fun q => d9 (by rw [e9 q]; rfl))
        · rw [hl, show p + (s.length + 1 + s'.length) = p + s.length + 1 + s'.length by omega] at this
          exact this
        · obtain ⟨x1, x2⟩ := e8 q
          by_cases hA : A E = 0
          · rw [if_pos hA]
            refine d8 ?_
            rw [e5, x2, hA]
            simp only [Bool.and_eq_true] at q ⊢
            exact ⟨q.1, rfl⟩
          · rw [if_neg hA]
            have hA1 : A E = 1 := by omega
            refine ⟨x1, ?_⟩
            rw [d9 (by rw [x2, hA1]; rfl), hA1]
            rfl
  · intro lv lv' s f j k A h hl
    refine ⟨h.1.up hl, fun q => ?_, h.2.2⟩
    intro p rest w L a b tu e hr hct hone hh2 hw
    exact h.2.1 (by omega) p rest w L a b tu e hr hct (by rcases hone with q | q; exact Or.inl (by omega); exact Or.inr q) hh2 hw
end QM
