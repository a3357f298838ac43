/-! Pure: the reader reads a query's text, and what it reads is a query -/
theorem pc_rl_i {c : Nat} : pc_rl c = true ↔ c = 61 ∨ c = 60 ∨ c = 62 ∨ c = 35 := by
  unfold pc_rl
  simp only [Bool.or_eq_true, beq_iff_eq]
theorem qx_ll_stop {f : List Nat → Option (List Nat × Nat)} {c k n : Nat} {l : List Nat} {a : Nat} (h : l.headD 0 ≠ c) : qx_ll f c k n l a = some (l, a) := by
  cases n with
  | zero => rfl
  | succ n =>
    unfold qx_ll
    rw [if_neg h]
theorem qx_on_s {E : Nat → Option Int32} {N n : Nat} {l : List Nat} : qx_on E N (n + 1) l = (if l.headD 0 = 33 then (match qx_on E N n l.tail with | none => none | some r => some (r.1, qx_ng r.2)) else if l.headD 0 = 40 then (match qx_an (qx_on E N n) N l.tail with | none => none | some r => if r.1.headD 0 = 41 then some (r.1.tail, r.2) else none) else qx_co E N l) := rfl
def qq_1 (f : List Nat → Option (List Nat × Nat)) (N : Nat) (s : List Nat) (a0 : Nat) : Prop := ∀ rest, qv_r rest → (s ++ rest).length ≤ N → (∃ m, rest.length ≤ m ∧ qx_al f N (s ++ rest) = qx_ll f 38 1 m rest a0) ∧ ∀ m a, (s ++ rest).length < m → ∃ m', rest.length ≤ m' ∧ qx_ll f 38 1 m (38 :: (s ++ rest)) a = qx_ll f 38 1 m' rest (if a = 1 then a0 else a)
def qq_2 (f : List Nat → Option (List Nat × Nat)) (N : Nat) (s : List Nat) (a0 : Nat) : Prop := ∀ rest, qv_r rest → rest.headD 0 ≠ 38 → (s ++ rest).length ≤ N → (∃ m, rest.length ≤ m ∧ qx_an f N (s ++ rest) = qx_ll (qx_al f N) 124 0 m rest a0) ∧ ∀ m a, (s ++ rest).length < m → ∃ m', rest.length ≤ m' ∧ qx_ll (qx_al f N) 124 0 m (124 :: (s ++ rest)) a = qx_ll (qx_al f N) 124 0 m' rest (if a = 0 then a0 else a)
theorem qq_01 {f : List Nat → Option (List Nat × Nat)} {N : Nat} {s : List Nat} {a0 : Nat} (h : ∀ rest, qv_r rest → (s ++ rest).length ≤ N → f (s ++ rest) = some (rest, a0)) : qq_1 f N s a0 := by
  intro rest hr hN
  have hf := h rest hr hN
  rw [List.length_append] at hN
  refine ⟨⟨N, by omega, ?_⟩, fun m a hm => ?_⟩
  · unfold qx_al
    rw [hf]
  · rw [List.length_append] at hm
    cases m with
    | zero => omega
    | succ m =>
      refine ⟨m, by omega, ?_⟩
      show (if (38 : Nat) = 38 then (match f (s ++ rest) with | none => none | some r => qx_ll f 38 1 m r.1 (if a = 1 then r.2 else a)) else _) = _
      rw [if_pos rfl, hf]
theorem qq_12 {f : List Nat → Option (List Nat × Nat)} {N : Nat} {s : List Nat} {a0 : Nat} (h : qq_1 f N s a0) : qq_2 f N s a0 := by
  intro rest hr h38 hN
  obtain ⟨⟨m0, hm0, hf⟩, -⟩ := h rest hr hN
  rw [qx_ll_stop h38] at hf
  rw [List.length_append] at hN
  refine ⟨⟨N, by omega, ?_⟩, fun m a hm => ?_⟩
  · unfold qx_an
    rw [hf]
  · rw [List.length_append] at hm
    cases m with
    | zero => omega
    | succ m =>
      refine ⟨m, by omega, ?_⟩
      show (if (124 : Nat) = 124 then (match qx_al f N (s ++ rest) with | none => none | some r => qx_ll (qx_al f N) 124 0 m r.1 (if a = 0 then r.2 else a)) else _) = _
      rw [if_pos rfl, hf]
def qq_M (E : Nat → Option Int32) (N : Nat) (lv : Nat) (s : List Nat) (a0 : Nat) : Prop := ∀ n, s.length ≤ n → (lv = 0 → ∀ rest, qv_r rest → (s ++ rest).length ≤ N → qx_on E N n (s ++ rest) = some (rest, a0)) ∧ (lv ≤ 1 → qq_1 (qx_on E N n) N s a0) ∧ qq_2 (qx_on E N n) N s a0
theorem qq_M0 {E : Nat → Option Int32} {N : Nat} {s : List Nat} {a0 : Nat} (h : ∀ n, s.length ≤ n → ∀ rest, qv_r rest → (s ++ rest).length ≤ N → qx_on E N n (s ++ rest) = some (rest, a0)) : qq_M E N 0 s a0 := fun n hn => ⟨fun _ => h n hn, fun _ => qq_01 (h n hn), qq_12 (qq_01 (h n hn))⟩
theorem qv_r_rl {c : Nat} {l : List Nat} (h : pc_rl c = true) : qv_r (c :: l) := by
  rcases pc_rl_i.mp h with rfl | rfl | rfl | rfl <;> exact ⟨rfl, rfl⟩
theorem qv_t_len {u : List Nat} {o : List (Nat × List Nat)} (h : qv_k u o) : 0 < (qv_t u o).length := by
  unfold qv_t
  rw [List.length_append]
  rcases h.1 with ⟨c, rfl, -, -⟩ | ⟨hne, -, -⟩
  · show 0 < 1 + _
    omega
  · have := List.length_pos_iff.mpr hne
    omega
theorem qx_co_t {E : Nat → Option Int32} {N : Nat} {u : List Nat} {o : List (Nat × List Nat)} {r : Nat} {u' : List Nat} {o' : List (Nat × List Nat)} {rest : List Nat} (h1 : qv_k u o) (h2 : qv_k u' o') (h3 : pc_rl r = true) (hr : qv_r rest) (hN : ((qv_t u o ++ r :: qv_t u' o') ++ rest).length ≤ N) : qx_co E N ((qv_t u o ++ r :: qv_t u' o') ++ rest) = some (rest, qv_a E u o r u' o') := by
  have e : (qv_t u o ++ r :: qv_t u' o') ++ rest = qv_t u o ++ (r :: (qv_t u' o' ++ rest)) := by
    rw [List.append_assoc]
    rfl
  rw [e] at hN ⊢
  simp only [List.length_append, List.length_cons] at hN
  have s1 := qx_su_t (E := E) (N := N) (l := r :: (qv_t u' o' ++ rest)) (b := false) h1 (qv_r_rl h3) (by omega)
  have s2 := qx_su_t (E := E) (N := N) (l := rest) (b := (qv_v E id u o false).2) h2 hr (by omega)
  unfold qx_co
  rw [s1]
  show (if pc_rl r = true then (match qx_su E N (qv_t u' o' ++ rest) (qv_v E id u o false).2 with | none => none | some w => some (w.1, if w.2.2 = true then 2 else if qx_cm (qv_v E id u o false).1 r w.2.1 = true then 1 else 0)) else none) = _
  rw [if_pos h3, s2]
  rfl
/-- the reader reads a query's text -/
theorem QQ.read {lv : Nat} {s : List Nat} {f : Nat → Nat → List Nat} {j k : Nat} {A : (Nat → Option Int32) → Nat} (h : QQ lv s f j k A) (E : Nat → Option Int32) (N : Nat) : qq_M E N lv s (A E) := by
  refine h.ind (M := fun lv s f j k A => qq_M E N lv s (A E)) ⟨?_, ?_, ?_, ?_, ?_, ?_⟩
  · intro u o r u' o' h1 h2 h3
    refine ⟨QQ.cmp h1 h2 h3, qq_M0 (fun n hn rest hr hN => ?_)⟩
    have hh := qv_u_hd (l := qv_o o ++ (r :: (qv_t u' o' ++ rest))) h1.1
    have e : (qv_t u o ++ r :: qv_t u' o') ++ rest = u ++ (qv_o o ++ (r :: (qv_t u' o' ++ rest))) := by
      unfold qv_t
      simp only [List.append_assoc, List.cons_append]
    cases n with
    | zero =>
      have := qv_t_len h1
      rw [List.length_append] at hn
      omega
    | succ n =>
      have hc := qx_co_t (E := E) h1 h2 h3 hr hN
      show (if ((qv_t u o ++ r :: qv_t u' o') ++ rest).headD 0 = 33 then _ else if ((qv_t u o ++ r :: qv_t u' o') ++ rest).headD 0 = 40 then _ else qx_co E N ((qv_t u o ++ r :: qv_t u' o') ++ rest)) = _
      rw [hc, e, if_neg hh.2.2, if_neg hh.2.1]
  · intro s f j k A h
    refine ⟨h.1.neg, qq_M0 (fun n hn rest hr hN => ?_)⟩
    cases n with
    | zero => cases hn
    | succ n =>
      have hs : qx_on E N n ((33 :: s) ++ rest).tail = _ := (h.2 n (Nat.le_of_succ_le_succ hn)).1 rfl rest hr (Nat.le_of_succ_le hN)
      rw [qx_on_s, if_pos (show ((33 :: s) ++ rest).headD 0 = 33 from rfl), hs]
  · intro s f j k A h
    refine ⟨h.1.par, qq_M0 (fun n hn rest hr hN => ?_)⟩
    cases n with
    | zero => cases hn
    | succ n =>
      have e : (40 :: (s ++ [41])) ++ rest = 40 :: (s ++ (41 :: rest)) := by simp
      have hn' : s.length ≤ n := by
        simp only [List.length_cons, List.length_append, List.length_nil] at hn
        omega
      rw [e] at hN ⊢
      obtain ⟨⟨m, hm, hs⟩, -⟩ := (h.2 n hn').2.2 (41 :: rest) ⟨rfl, rfl⟩ (show (41 : Nat) ≠ 38 by decide) (Nat.le_of_succ_le hN)
      rw [qx_ll_stop (l := 41 :: rest) (show (41 : Nat) ≠ 124 by decide)] at hs
      have hs : qx_an (qx_on E N n) N (40 :: (s ++ (41 :: rest))).tail = _ := hs
      rw [qx_on_s, if_neg (show ¬ (40 :: (s ++ 41 :: rest)).headD 0 = 33 from fun q => absurd (show (40 : Nat) = 33 from q) (by decide)), if_pos (show (40 :: (s ++ 41 :: rest)).headD 0 = 40 from rfl), hs]
      rfl
  · intro s f j k A s' f' j' k' A' h h'
    refine ⟨h.1.and h'.1, fun n hn => ?_⟩
    have hl : s.length ≤ n ∧ s'.length ≤ n := by
      simp only [List.length_append, List.length_cons] at hn
      omega
    have a1 := (h.2 n hl.1).2.1 (Nat.le_refl _)
    have a2 := (h'.2 n hl.2).2.1 (Nat.le_refl _)
    have key : qq_1 (qx_on E N n) N (s ++ 38 :: s') (if A E = 1 then A' E else A E) := by
      intro rest hr hN
      have e : (s ++ 38 :: s') ++ rest = s ++ (38 :: (s' ++ rest)) := by simp
      rw [e] at hN ⊢
      have hN2 := hN
      simp only [List.length_append, List.length_cons] at hN2
      obtain ⟨⟨m1, b1, b2⟩, b3⟩ := a1 (38 :: (s' ++ rest)) ⟨rfl, rfl⟩ hN
      obtain ⟨-, c3⟩ := a2 rest hr (by rw [List.length_append]; omega)
      refine ⟨?_, fun m a hm => ?_⟩
      · obtain ⟨m', d1, d2⟩ := c3 m1 (A E) b1
        exact ⟨m', d1, by rw [b2, d2]⟩
      · obtain ⟨m2, b4, b5⟩ := b3 m a hm
        obtain ⟨m', d1, d2⟩ := c3 m2 (if a = 1 then A E else a) b4
        refine ⟨m', d1, ?_⟩
        rw [b5, d2]
        congr 1
        by_cases ha : a = 1
        · rw [if_pos ha, if_pos ha]
        · rw [if_neg ha, if_neg ha, if_neg ha]
    exact ⟨fun q => (by cases q), fun _ => key, qq_12 key⟩
  · intro s f j k A s' f' j' k' A' h h'
    refine ⟨h.1.or h'.1, fun n hn => ?_⟩
    have hl : s.length ≤ n ∧ s'.length ≤ n := by
      simp only [List.length_append, List.length_cons] at hn
      omega
    have a1 := (h.2 n hl.1).2.2
    have a2 := (h'.2 n hl.2).2.2
    refine ⟨fun q => (by cases q), fun q => absurd q (by decide), ?_⟩
    intro rest hr h38 hN
    have e : (s ++ 124 :: s') ++ rest = s ++ (124 :: (s' ++ rest)) := by simp
    rw [e] at hN ⊢
    have hN2 := hN
    simp only [List.length_append, List.length_cons] at hN2
    obtain ⟨⟨m1, b1, b2⟩, b3⟩ := a1 (124 :: (s' ++ rest)) ⟨rfl, rfl⟩ (show (124 : Nat) ≠ 38 by decide) hN
    obtain ⟨-, c3⟩ := a2 rest hr h38 (by rw [List.length_append]; omega)
    refine ⟨?_, fun m a hm => ?_⟩
    · obtain ⟨m', d1, d2⟩ := c3 m1 (A E) b1
      exact ⟨m', d1, by rw [b2, d2]⟩
    · obtain ⟨m2, b4, b5⟩ := b3 m a hm
      obtain ⟨m', d1, d2⟩ := c3 m2 (if a = 0 then A E else a) b4
      refine ⟨m', d1, ?_⟩
      rw [b5, d2]
      congr 1
      by_cases ha : a = 0
      · rw [if_pos ha, if_pos ha]
      · rw [if_neg ha, if_neg ha, if_neg ha]
  · intro lv lv' s f j k A h hl
    exact ⟨h.1.up hl, fun n hn => ⟨fun q => (h.2 n hn).1 (by omega), fun q => (h.2 n hn).2.1 (by omega), (h.2 n hn).2.2⟩⟩
/-- whole texts -/
theorem QQ.reads {lv : Nat} {s : List Nat} {f : Nat → Nat → List Nat} {j k : Nat} {A : (Nat → Option Int32) → Nat} (h : QQ lv s f j k A) (E : Nat → Option Int32) {n : Nat} (hn : s.length ≤ n) : qx_an (qx_on E s.length n) s.length s = some ([], A E) := by
  obtain ⟨⟨m, -, h1⟩, -⟩ := (h.read E s.length n hn).2.2 [] ⟨rfl, rfl⟩ (show (0 : Nat) ≠ 38 by decide) (by rw [List.append_nil]; exact Nat.le_refl _)
  rw [List.append_nil] at h1
  rw [h1]
  exact qx_ll_stop (show (0 : Nat) ≠ 124 by decide)
/-! what is read is a query -/
theorem qx_nu_e : ∀ (n : Nat) (l : List Nat) (v : Int32), ∃ u, l = u ++ (qx_nu n l v).1 ∧ u.length ≤ n ∧ (∀ c, c ∈ u → pc_dg c = true) ∧ (pc_dg (l.headD 0) = true → 0 < n → u ≠ [])
  | 0, l, v => ⟨[], rfl, Nat.le_refl _, fun _ h => (by cases h), fun _ h => absurd h (Nat.lt_irrefl _)⟩
  | n + 1, l, v => by
    unfold qx_nu
    by_cases h : pc_dg (l.headD 0) = true
    · rw [if_pos h]
      cases l with
      | nil => cases h
      | cons c l =>
        obtain ⟨u, h1, h2, h3, -⟩ := qx_nu_e n l (v * 10 + (nI c - 48))
        refine ⟨c :: u, ?_, Nat.succ_le_succ h2, fun c' hc => ?_, fun _ _ q => by cases q⟩
        · show c :: l = c :: (u ++ _)
          congr 1
        · rcases List.mem_cons.mp hc with rfl | hc
          · exact h
          · exact h3 c' hc
    · rw [if_neg h]
      exact ⟨[], rfl, Nat.zero_le _, fun _ q => (by cases q), fun q => absurd q h⟩
theorem qx_hd {l : List Nat} {c : Nat} (h : l.headD 0 = c) (hc : c ≠ 0) : l = c :: l.tail := by
  cases l with
  | nil => exact absurd h.symm hc
  | cons d l =>
    have h : d = c := h
    rw [h]
    rfl
theorem qx_un_e {E : Nat → Option Int32} {l : List Nat} {r : List Nat × Int32 × Bool} (h : qx_un E l = some r) : ∃ u, qv_u u ∧ l = u ++ r.1 := by
  unfold qx_un at h
  by_cases h1 : 97 ≤ l.headD 0 ∧ l.headD 0 ≤ 101
  · rw [if_pos h1] at h
    cases h
    exact ⟨[l.headD 0], Or.inl ⟨_, rfl, h1⟩, qx_hd rfl (by omega)⟩
  · rw [if_neg h1] at h
    by_cases h2 : pc_dg (l.headD 0) = true
    · rw [if_pos h2] at h
      cases h
      obtain ⟨u, g1, g2, g3, g4⟩ := qx_nu_e 4 l 0
      exact ⟨u, Or.inr ⟨g4 h2 (by decide), g2, g3⟩, g1⟩
    · rw [if_neg h2] at h
      cases h
theorem qv_o_app : ∀ (o o' : List (Nat × List Nat)), qv_o (o ++ o') = qv_o o ++ qv_o o'
  | [], _ => rfl
  | x :: o, o' => by
    show x.1 :: (x.2 ++ qv_o (o ++ o')) = (x.1 :: (x.2 ++ qv_o o)) ++ qv_o o'
    rw [qv_o_app o o', List.cons_append, List.append_assoc]
theorem qv_k_app {u : List Nat} {o : List (Nat × List Nat)} {c : Nat} {u' : List Nat} (h : qv_k u o) (hc : pc_op c = true) (hu : qv_u u') : qv_k u (o ++ [(c, u')]) ∧ qv_t u (o ++ [(c, u')]) = qv_t u o ++ (c :: u') := by
  refine ⟨⟨h.1, fun x hx => ?_⟩, ?_⟩
  · rcases List.mem_append.mp hx with hx | hx
    · exact h.2 x hx
    · rw [List.mem_singleton.mp hx]
      exact ⟨hc, hu⟩
  · unfold qv_t
    rw [qv_o_app, List.append_assoc]
    show _ = _
    congr 2
    show c :: (u' ++ []) = _
    rw [List.append_nil]
theorem qx_pl_e {E : Nat → Option Int32} {L : List Nat} : ∀ (n : Nat) (l : List Nat) (v : Int32) (b : Bool) (r : List Nat × Int32 × Bool), (∃ u o, qv_k u o ∧ L = qv_t u o ++ l) → qx_pl E n l v b = some r → ∃ u o, qv_k u o ∧ L = qv_t u o ++ r.1
  | 0, l, v, b, r, hL, h => by
    cases h
    exact hL
  | n + 1, l, v, b, r, hL, h => by
    unfold qx_pl at h
    by_cases hc : l.headD 0 = 42 ∨ l.headD 0 = 47
    · rw [if_pos hc] at h
      cases hu : qx_un E l.tail with
      | none =>
        rw [hu] at h
        cases h
      | some w =>
        rw [hu] at h
        obtain ⟨u', hu', hl'⟩ := qx_un_e hu
        obtain ⟨u, o, hk, hL⟩ := hL
        have hop : pc_op (l.headD 0) = true := pc_op_i.mpr (by omega)
        obtain ⟨k1, k2⟩ := qv_k_app hk hop hu'
        have hL' : ∃ u o, qv_k u o ∧ L = qv_t u o ++ w.1 := ⟨u, _, k1, by
          rw [k2, List.append_assoc, List.cons_append, ← hl', ← qx_hd rfl (by omega)]
          exact hL⟩
        dsimp only at h
        by_cases h4 : l.headD 0 = 42
        · rw [if_pos h4] at h
          exact qx_pl_e n _ _ _ r hL' h
        · rw [if_neg h4] at h
          by_cases h0 : w.2.1 = 0
          · rw [if_pos h0] at h
            exact qx_pl_e n _ _ _ r hL' h
          · rw [if_neg h0] at h
            exact qx_pl_e n _ _ _ r hL' h
    · rw [if_neg hc] at h
      cases h
      exact hL
theorem qx_pr_e {E : Nat → Option Int32} {N : Nat} {L l : List Nat} {b : Bool} {r : List Nat × Int32 × Bool} (h : qx_pr E N l b = some r) (hL : ∀ u, qv_u u → ∀ l', l = u ++ l' → ∃ u o, qv_k u o ∧ L = qv_t u o ++ l') : ∃ u o, qv_k u o ∧ L = qv_t u o ++ r.1 := by
  unfold qx_pr at h
  cases hu : qx_un E l with
  | none =>
    rw [hu] at h
    cases h
  | some w =>
    rw [hu] at h
    obtain ⟨u', hu', hl'⟩ := qx_un_e hu
    exact qx_pl_e N _ _ _ r (hL u' hu' _ hl') h
theorem qx_sl_e {E : Nat → Option Int32} {N : Nat} {L : List Nat} : ∀ (n : Nat) (l : List Nat) (v : Int32) (b : Bool) (r : List Nat × Int32 × Bool), (∃ u o, qv_k u o ∧ L = qv_t u o ++ l) → qx_sl E N n l v b = some r → ∃ u o, qv_k u o ∧ L = qv_t u o ++ r.1
  | 0, l, v, b, r, hL, h => by
    cases h
    exact hL
  | n + 1, l, v, b, r, hL, h => by
    unfold qx_sl at h
    by_cases hc : l.headD 0 = 43 ∨ l.headD 0 = 45
    · rw [if_pos hc] at h
      cases hu : qx_pr E N l.tail b with
      | none =>
        rw [hu] at h
        cases h
      | some w =>
        rw [hu] at h
        refine qx_sl_e n _ _ _ r (qx_pr_e hu (fun u' hu' l' hl' => ?_)) h
        obtain ⟨u, o, hk, hL⟩ := hL
        have hop : pc_op (l.headD 0) = true := pc_op_i.mpr (by omega)
        obtain ⟨k1, k2⟩ := qv_k_app hk hop hu'
        exact ⟨u, _, k1, by
          rw [k2, List.append_assoc, List.cons_append, ← hl', ← qx_hd rfl (by omega)]
          exact hL⟩
    · rw [if_neg hc] at h
      cases h
      exact hL
theorem qx_su_e {E : Nat → Option Int32} {N : Nat} {l : List Nat} {b : Bool} {r : List Nat × Int32 × Bool} (h : qx_su E N l b = some r) : ∃ u o, qv_k u o ∧ l = qv_t u o ++ r.1 := by
  unfold qx_su at h
  cases hu : qx_pr E N l b with
  | none =>
    rw [hu] at h
    cases h
  | some w =>
    rw [hu] at h
    refine qx_sl_e N _ _ _ r (qx_pr_e hu (fun u' hu' l' hl' => ?_)) h
    exact ⟨u', [], ⟨hu', fun _ q => (by cases q)⟩, by
      unfold qv_t
      rw [show qv_o [] = [] from rfl, List.append_nil]
      exact hl'⟩
def qq_E (lv : Nat) (l l' : List Nat) : Prop := ∃ s f j k A, l = s ++ l' ∧ QQ lv s f j k A
theorem qx_co_e {E : Nat → Option Int32} {N : Nat} {l : List Nat} {r : List Nat × Nat} (h : qx_co E N l = some r) : qq_E 0 l r.1 := by
  unfold qx_co at h
  cases h1 : qx_su E N l false with
  | none =>
    rw [h1] at h
    cases h
  | some w =>
    rw [h1] at h
    dsimp only at h
    by_cases hr : pc_rl (w.1.headD 0) = true
    · rw [if_pos hr] at h
      cases h2 : qx_su E N w.1.tail w.2.2 with
      | none =>
        rw [h2] at h
        cases h
      | some w' =>
        rw [h2] at h
        cases h
        obtain ⟨u, o, k1, k2⟩ := qx_su_e h1
        obtain ⟨u', o', k3, k4⟩ := qx_su_e h2
        refine ⟨_, _, _, _, _, ?_, QQ.cmp k1 k3 hr⟩
        rw [List.append_assoc, List.cons_append, ← k4, ← qx_hd rfl (fun q => by rw [q] at hr; cases hr)]
        exact k2
    · rw [if_neg hr] at h
      cases h
theorem qx_ll_e {f : List Nat → Option (List Nat × Nat)} {c k w : Nat} {L : List Nat} (hc : c ≠ 0) (hf : ∀ l r, f l = some r → qq_E w l r.1) (hj : ∀ l l' l'', qq_E w l (c :: l') → qq_E w l' l'' → qq_E w l l'') : ∀ (n : Nat) (l : List Nat) (a : Nat) (r : List Nat × Nat), qq_E w L l → qx_ll f c k n l a = some r → qq_E w L r.1
  | 0, l, a, r, hL, h => by
    cases h
    exact hL
  | n + 1, l, a, r, hL, h => by
    unfold qx_ll at h
    by_cases h1 : l.headD 0 = c
    · rw [if_pos h1] at h
      cases h2 : f l.tail with
      | none =>
        rw [h2] at h
        cases h
      | some w' =>
        rw [h2] at h
        refine qx_ll_e hc hf hj n _ _ r ?_ h
        rw [qx_hd h1 hc] at hL
        exact hj _ _ _ hL (hf _ _ h2)
    · rw [if_neg h1] at h
      cases h
      exact hL
theorem qq_E_up {lv lv' : Nat} {l l' : List Nat} (h : qq_E lv l l') (hl : lv ≤ lv') : qq_E lv' l l' := by
  obtain ⟨s, f, j, k, A, h1, h2⟩ := h
  exact ⟨s, f, j, k, A, h1, h2.up hl⟩
theorem qx_al_e {f : List Nat → Option (List Nat × Nat)} {N : Nat} {l : List Nat} {r : List Nat × Nat} (hf : ∀ l r, f l = some r → qq_E 0 l r.1) (h : qx_al f N l = some r) : qq_E 1 l r.1 := by
  unfold qx_al at h
  cases h1 : f l with
  | none =>
    rw [h1] at h
    cases h
  | some w =>
    rw [h1] at h
    refine qx_ll_e (by decide) (fun l r q => qq_E_up (hf l r q) (Nat.zero_le _)) (fun l l' l'' q1 q2 => ?_) N _ _ r (qq_E_up (hf _ _ h1) (Nat.zero_le _)) h
    obtain ⟨s, f, j, k, A, a1, a2⟩ := q1
    obtain ⟨s', f', j', k', A', b1, b2⟩ := q2
    exact ⟨_, _, _, _, _, by rw [a1, b1, List.append_assoc, List.cons_append], a2.and b2⟩
theorem qx_an_e {f : List Nat → Option (List Nat × Nat)} {N : Nat} {l : List Nat} {r : List Nat × Nat} (hf : ∀ l r, f l = some r → qq_E 0 l r.1) (h : qx_an f N l = some r) : qq_E 2 l r.1 := by
  unfold qx_an at h
  cases h1 : qx_al f N l with
  | none =>
    rw [h1] at h
    cases h
  | some w =>
    rw [h1] at h
    refine qx_ll_e (by decide) (fun l r q => qq_E_up (qx_al_e hf q) (by decide)) (fun l l' l'' q1 q2 => ?_) N _ _ r (qq_E_up (qx_al_e hf h1) (by decide)) h
    obtain ⟨s, f, j, k, A, a1, a2⟩ := q1
    obtain ⟨s', f', j', k', A', b1, b2⟩ := q2
    exact ⟨_, _, _, _, _, by rw [a1, b1, List.append_assoc, List.cons_append], a2.or b2⟩
theorem qx_on_e {E : Nat → Option Int32} {N : Nat} : ∀ (n : Nat) (l : List Nat) (r : List Nat × Nat), qx_on E N n l = some r → qq_E 0 l r.1
  | 0, l, r, h => by cases h
  | n + 1, l, r, h => by
    have h : (if l.headD 0 = 33 then (match qx_on E N n l.tail with | none => none | some r => some (r.1, qx_ng r.2)) else if l.headD 0 = 40 then (match qx_an (qx_on E N n) N l.tail with | none => none | some r => if r.1.headD 0 = 41 then some (r.1.tail, r.2) else none) else qx_co E N l) = some r := h
    by_cases h1 : l.headD 0 = 33
    · rw [if_pos h1] at h
      cases h2 : qx_on E N n l.tail with
      | none =>
        rw [h2] at h
        cases h
      | some w =>
        rw [h2] at h
        cases h
        obtain ⟨s, f, j, k, A, a1, a2⟩ := qx_on_e n _ _ h2
        exact ⟨_, _, _, _, _, by rw [List.cons_append, ← a1]; exact qx_hd h1 (by decide), a2.neg⟩
    · rw [if_neg h1] at h
      by_cases h2 : l.headD 0 = 40
      · rw [if_pos h2] at h
        cases h3 : qx_an (qx_on E N n) N l.tail with
        | none =>
          rw [h3] at h
          cases h
        | some w =>
          rw [h3] at h
          dsimp only at h
          by_cases h4 : w.1.headD 0 = 41
          · rw [if_pos h4] at h
            cases h
            obtain ⟨s, f, j, k, A, a1, a2⟩ := qx_an_e (fun l r => qx_on_e n l r) h3
            exact ⟨_, _, _, _, _, by
              rw [List.cons_append, List.append_assoc, List.singleton_append, ← qx_hd h4 (by decide), ← a1]
              exact qx_hd h2 (by decide), a2.par⟩
          · rw [if_neg h4] at h
            cases h
      · rw [if_neg h2] at h
        exact qx_co_e h
/-- a text that is read to its end is a query -/
theorem qx_query {E : Nat → Option Int32} {N n : Nat} {l : List Nat} {a : Nat} (h : qx_an (qx_on E N n) N l = some ([], a)) : ∃ f j k A, QQ 2 l f j k A := by
  obtain ⟨s, f, j, k, A, a1, a2⟩ := qx_an_e (fun l r => qx_on_e n l r) h
  rw [List.append_nil] at a1
  rw [a1]
  exact ⟨f, j, k, A, a2⟩
