/-! Pure: what isQuery takes is just what is a query -/
theorem qd_hd {t : List Nat} {p : Nat} : (t.drop p).headD 0 = t.getD p 0 := by
  rw [List.headD_eq_head?_getD, List.head?_drop, List.getD_eq_getElem?_getD]
theorem qd_tl {t : List Nat} {p : Nat} : (t.drop p).tail = t.drop (p + 1) := by
  rw [List.tail_drop]
theorem qd_cons {t : List Nat} {p c : Nat} {l : List Nat} (h : t.drop p = c :: l) : t.getD p 0 = c ∧ t.drop (p + 1) = l ∧ p < t.length := by
  refine ⟨?_, ?_, ?_⟩
  · rw [← qd_hd, h]
    rfl
  · rw [← qd_tl, h]
    rfl
  · have := congrArg List.length h
    rw [List.length_drop, List.length_cons] at this
    omega
theorem qd_app {t : List Nat} : ∀ {s : List Nat} {p : Nat} {l : List Nat}, t.drop p = s ++ l → t.drop (p + s.length) = l
  | [], p, l, h => h
  | c :: s, p, l, h => by
    have := qd_app (s := s) (qd_cons h).2.1
    rw [← this]
    congr 1
    show p + (s.length + 1) = _
    omega
theorem qd_get {t : List Nat} {p c : Nat} (h : t.getD p 0 = c) (hc : c ≠ 0) : t.drop p = c :: t.drop (p + 1) := by
  have := qx_hd (l := t.drop p) (c := c) (by rw [qd_hd]; exact h) hc
  rw [qd_tl] at this
  exact this
/-- digits from p to e -/
theorem px_de_dg {t : List Nat} : ∀ (n q : Nat), ∃ u, t.drop q = u ++ t.drop (px_de t n q) ∧ (∀ c, c ∈ u → pc_dg c = true) ∧ px_de t n q = q + u.length
  | 0, q => ⟨[], rfl, fun _ h => (by cases h), rfl⟩
  | n + 1, q => by
    unfold px_de
    by_cases h : pc_dg (t.getD q 0) = true
    · rw [if_pos h]
      obtain ⟨u, h1, h2, h3⟩ := px_de_dg (t := t) n (q + 1)
      refine ⟨t.getD q 0 :: u, ?_, fun c hc => ?_, ?_⟩
      · rw [List.cons_append, ← h1]
        exact qd_get rfl (fun q0 => by rw [q0] at h; cases h)
      · rcases List.mem_cons.mp hc with rfl | hc
        · exact h
        · exact h2 c hc
      · rw [h3, List.length_cons]
        omega
    · rw [if_neg h]
      exact ⟨[], rfl, fun _ h => (by cases h), rfl⟩
theorem px_un_e {t : List Nat} {p q : Nat} (h : px_un t p = some q) : ∃ u, qv_u u ∧ t.drop p = u ++ t.drop q := by
  unfold px_un at h
  by_cases h1 : 97 ≤ t.getD p 0 ∧ t.getD p 0 ≤ 101
  · rw [if_pos h1] at h
    cases h
    exact ⟨[t.getD p 0], Or.inl ⟨_, rfl, h1⟩, qd_get rfl (by omega)⟩
  · rw [if_neg h1] at h
    by_cases h2 : px_de t 61 p = p ∨ p + 4 < px_de t 61 p
    · rw [if_pos h2] at h
      cases h
    · rw [if_neg h2] at h
      cases h
      obtain ⟨u, g1, g2, g3⟩ := px_de_dg (t := t) 61 p
      refine ⟨u, Or.inr ⟨fun q => ?_, by omega, g2⟩, g1⟩
      rw [q] at g3
      exact h2 (Or.inl g3)
theorem px_vl_e {t : List Nat} {L : List Nat} : ∀ (n : Nat) (a : Option Nat) (e : Nat), (∀ q, a = some q → ∃ u o, qv_k u o ∧ L = qv_t u o ++ t.drop q) → px_vl t n a = some e → ∃ u o, qv_k u o ∧ L = qv_t u o ++ t.drop e
  | 0, a, e, hL, h => hL e h
  | n + 1, none, e, hL, h => by cases h
  | n + 1, some q, e, hL, h => by
    unfold px_vl at h
    by_cases hc : pc_op (t.getD q 0) = true
    · rw [if_pos hc] at h
      refine px_vl_e n _ e (fun q' hq' => ?_) h
      obtain ⟨u', hu', hl'⟩ := px_un_e hq'
      obtain ⟨u, o, hk, hL⟩ := hL q rfl
      obtain ⟨k1, k2⟩ := qv_k_app hk hc hu'
      exact ⟨u, _, k1, by
        rw [k2, List.append_assoc, List.cons_append, ← hl', ← qd_get rfl (fun q0 => by rw [q0] at hc; cases hc)]
        exact hL⟩
    · rw [if_neg hc] at h
      cases h
      exact hL _ rfl
theorem px_ve_e {t : List Nat} {p e : Nat} (h : px_ve t p = some e) : ∃ u o, qv_k u o ∧ t.drop p = qv_t u o ++ t.drop e := px_vl_e 61 _ e (fun q hq => by
  obtain ⟨u', hu', hl'⟩ := px_un_e hq
  exact ⟨u', [], ⟨hu', fun _ q => (by cases q)⟩, by
    unfold qv_t
    rw [show qv_o [] = [] from rfl, List.append_nil]
    exact hl'⟩) h
theorem px_ce_e {t : List Nat} {p e : Nat} (h : px_ce t p = some e) : qq_E 0 (t.drop p) (t.drop e) := by
  unfold px_ce at h
  cases hv : px_ve t p with
  | none =>
    rw [hv] at h
    cases h
  | some q =>
    rw [hv] at h
    dsimp only at h
    by_cases hr : pc_rl (t.getD q 0) = true
    · rw [if_pos hr] at h
      obtain ⟨u, o, k1, k2⟩ := px_ve_e hv
      obtain ⟨u', o', k3, k4⟩ := px_ve_e h
      refine ⟨_, _, _, _, _, ?_, QQ.cmp k1 k3 hr⟩
      rw [List.append_assoc, List.cons_append, ← k4, ← qd_get rfl (fun q0 => by rw [q0] at hr; cases hr)]
      exact k2
    · rw [if_neg hr] at h
      cases h
def qq_X (lv : Nat) (s : List Nat) : Prop := ∃ f j k A, QQ lv s f j k A
/-- what may stand behind a part, lv parentheses deep -/
def qq_C : Nat → List Nat → Prop
  | 0, l => l = []
  | lv + 1, l => ∃ l', l = 41 :: l' ∧ ∀ x, qq_X 1 x → ∃ s l2, x ++ l' = s ++ l2 ∧ qq_X 2 s ∧ qq_C lv l2
theorem px_iq_e {t : List Nat} : ∀ (n p lv : Nat), t.length < p + n → (px_iq t n p lv false = true → ∀ y, (∀ z, qq_X 0 z → qq_X 1 (y ++ z)) → ∃ s l2, y ++ t.drop p = s ++ l2 ∧ qq_X 2 s ∧ qq_C lv l2) ∧ (px_iq t n p lv true = true → ∀ x, qq_X 1 x → ∃ s l2, x ++ t.drop p = s ++ l2 ∧ qq_X 2 s ∧ qq_C lv l2)
  | 0, p, lv, hn => by
    refine ⟨fun h => (by cases h), fun h x hx => ?_⟩
    have h : (true && lv == 0) = true := h
    have h0 : lv = 0 := by simpa using h
    subst h0
    obtain ⟨f, j, k, A, hx⟩ := hx
    refine ⟨x, [], ?_, ⟨f, j, k, A, hx.up (by decide)⟩, rfl⟩
    rw [List.drop_eq_nil_of_le (by omega)]
  | n + 1, p, lv, hn => by
    constructor
    · intro h y hy
      unfold px_iq at h
      by_cases hp : p < t.length
      rotate_left
      · rw [if_neg hp] at h
        cases h
      rw [if_pos hp, if_neg (by decide)] at h
      by_cases h1 : t.getD p 0 = 33
      · rw [if_pos h1] at h
        have := (px_iq_e n (p + 1) lv (by omega)).1 h (y ++ [33]) (fun z hz => by
          obtain ⟨f, j, k, A, hz⟩ := hz
          rw [List.append_assoc]
          exact hy _ ⟨_, _, _, _, hz.neg⟩)
        rw [List.append_assoc, List.singleton_append, ← qd_get h1 (by decide)] at this
        exact this
      rw [if_neg h1] at h
      by_cases h2 : t.getD p 0 = 40
      · rw [if_pos h2] at h
        obtain ⟨s, l2, e, hs, l3, hl, hc⟩ := (px_iq_e n (p + 1) (lv + 1) (by omega)).1 h [] (fun z hz => by
          obtain ⟨f, j, k, A, hz⟩ := hz
          exact ⟨_, _, _, _, hz.up (Nat.zero_le _)⟩)
        obtain ⟨f, j, k, A, hs⟩ := hs
        have := hc _ (hy _ ⟨_, _, _, _, hs.par⟩)
        rw [List.append_assoc, List.cons_append, List.append_assoc, List.singleton_append, ← hl, ← e, List.nil_append, ← qd_get h2 (by decide)] at this
        exact this
      rw [if_neg h2] at h
      cases hce : px_ce t p with
      | none =>
        rw [hce] at h
        cases h
      | some q =>
        rw [hce] at h
        have hq := px_ce_lt hce
        obtain ⟨s, f, j, k, A, e, hs⟩ := px_ce_e hce
        have := (px_iq_e n q lv (by omega)).2 h (y ++ s) (hy _ ⟨_, _, _, _, hs⟩)
        rw [List.append_assoc, ← e] at this
        exact this
    · intro h x hx
      unfold px_iq at h
      by_cases hp : p < t.length
      rotate_left
      · rw [if_neg hp] at h
        have h0 : lv = 0 := by simpa using h
        subst h0
        obtain ⟨f, j, k, A, hx⟩ := hx
        refine ⟨x, [], ?_, ⟨f, j, k, A, hx.up (by decide)⟩, rfl⟩
        rw [List.drop_eq_nil_of_le (by omega)]
      rw [if_pos hp, if_pos rfl] at h
      by_cases h1 : t.getD p 0 = 41
      · rw [if_pos h1] at h
        cases lv with
        | zero => cases h
        | succ lv =>
          rw [if_neg (by omega)] at h
          have := (px_iq_e n (p + 1) lv (by omega)).2 h
          obtain ⟨f, j, k, A, hx⟩ := hx
          exact ⟨x, t.drop p, rfl, ⟨f, j, k, A, hx.up (by decide)⟩, _, qd_get h1 (by decide), this⟩
      rw [if_neg h1] at h
      by_cases h2 : t.getD p 0 = 38 ∨ t.getD p 0 = 124
      · rw [if_pos h2] at h
        have ih := (px_iq_e n (p + 1) lv (by omega)).1 h
        by_cases h3 : t.getD p 0 = 38
        · have := ih (x ++ [38]) (fun z hz => by
            obtain ⟨f, j, k, A, hz⟩ := hz
            obtain ⟨f', j', k', A', hx⟩ := hx
            rw [List.append_assoc]
            exact ⟨_, _, _, _, hx.and (hz.up (Nat.zero_le _))⟩)
          rw [List.append_assoc, List.singleton_append, ← qd_get h3 (by decide)] at this
          exact this
        · have h4 : t.getD p 0 = 124 := h2.resolve_left h3
          obtain ⟨s, l2, e, hs, hc⟩ := ih [] (fun z hz => by
            obtain ⟨f, j, k, A, hz⟩ := hz
            exact ⟨_, _, _, _, hz.up (Nat.zero_le _)⟩)
          obtain ⟨f, j, k, A, hs⟩ := hs
          obtain ⟨f', j', k', A', hx⟩ := hx
          refine ⟨x ++ 124 :: s, l2, ?_, ⟨_, _, _, _, (hx.up (by decide)).or hs⟩, hc⟩
          rw [List.append_assoc, List.cons_append, ← e, List.nil_append, ← qd_get h4 (by decide)]
      · rw [if_neg h2] at h
        cases h
theorem px_iq_q {t : List Nat} {n : Nat} (hn : t.length < n) (h : px_iq t n 0 0 false = true) : qq_X 2 t := by
  obtain ⟨s, l2, e, hs, hc⟩ := (px_iq_e (t := t) n 0 0 (by omega)).1 h [] (fun z hz => by
    obtain ⟨f, j, k, A, hz⟩ := hz
    exact ⟨_, _, _, _, hz.up (Nat.zero_le _)⟩)
  have hc : l2 = [] := hc
  rw [hc, List.append_nil, List.nil_append, List.drop_zero] at e
  rw [e]
  exact hs
/-! the other way -/
theorem px_de_stop {t : List Nat} {n q : Nat} (h : pc_dg (t.getD q 0) = false) : px_de t n q = q := by
  cases n with
  | zero => rfl
  | succ n =>
    unfold px_de
    rw [if_neg (by rw [h]; decide)]
theorem px_de_u {t : List Nat} : ∀ (u : List Nat) (n q : Nat) (l : List Nat), t.drop q = u ++ l → (∀ c, c ∈ u → pc_dg c = true) → pc_dg (l.headD 0) = false → u.length ≤ n → px_de t n q = q + u.length
  | [], n, q, l, h, _, hl, _ => px_de_stop (by rw [← qd_hd, h]; exact hl)
  | c :: u, 0, q, l, _, _, _, hn => by cases hn
  | c :: u, n + 1, q, l, h, hu, hl, hn => by
    obtain ⟨h1, h2, h3⟩ := qd_cons h
    unfold px_de
    rw [if_pos (by rw [h1]; exact hu c List.mem_cons_self), px_de_u u n (q + 1) l h2 (fun c hc => hu c (List.mem_cons_of_mem _ hc)) hl (Nat.le_of_succ_le_succ hn)]
    show _ = q + (u.length + 1)
    omega
theorem px_un_u {t u l : List Nat} {p : Nat} (h : t.drop p = u ++ l) (hu : qv_u u) (hl : pc_dg (l.headD 0) = false) : px_un t p = some (p + u.length) := by
  rcases hu with ⟨c, rfl, h1, h2⟩ | ⟨hne, hlen, hd⟩
  · obtain ⟨g1, -, -⟩ := qd_cons h
    unfold px_un
    rw [if_pos (by omega)]
    rfl
  · have e := px_de_u u 61 p l h hd hl (by omega)
    have hp := List.length_pos_iff.mpr hne
    cases u with
    | nil => exact absurd rfl hne
    | cons c u =>
      obtain ⟨g1, -, -⟩ := qd_cons h
      have hc := pc_dg_i.mp (hd c List.mem_cons_self)
      unfold px_un
      rw [if_neg (by omega), e, if_neg (by omega)]
theorem px_vl_o {t l : List Nat} (hl : qv_r l) : ∀ (o : List (Nat × List Nat)) (n p : Nat), t.drop p = qv_o o ++ l → (∀ x, x ∈ o → pc_op x.1 = true ∧ qv_u x.2) → (qv_o o).length < n → px_vl t n (some p) = some (p + (qv_o o).length)
  | o, 0, p, _, _, hn => by cases hn
  | [], n + 1, p, h, _, _ => by
    unfold px_vl
    rw [← qd_hd, h, if_neg (by rw [show qv_o [] ++ l = l from rfl, hl.2]; decide)]
    rfl
  | k :: o, n + 1, p, h, ho, hn => by
    have e1 : qv_o (k :: o) ++ l = k.1 :: (k.2 ++ (qv_o o ++ l)) := by
      show k.1 :: (k.2 ++ qv_o o) ++ l = _
      rw [List.cons_append, List.append_assoc]
    have hlen : (qv_o (k :: o)).length = k.2.length + (qv_o o).length + 1 := by
      show (k.1 :: (k.2 ++ qv_o o)).length = _
      rw [List.length_cons, List.length_append]
    obtain ⟨k1, k2⟩ := ho k List.mem_cons_self
    have ho' : ∀ x, x ∈ o → pc_op x.1 = true ∧ qv_u x.2 := fun x hx => ho x (List.mem_cons_of_mem _ hx)
    rw [e1] at h
    obtain ⟨g1, g2, g3⟩ := qd_cons h
    unfold px_vl
    rw [if_pos (by rw [g1]; exact k1), px_un_u g2 k2 (qv_o_dg ho' hl), px_vl_o hl o n (p + 1 + k.2.length) (qd_app g2) ho' (by omega), hlen]
    congr 1
    omega
theorem px_ve_t {t l : List Nat} {p : Nat} {u : List Nat} {o : List (Nat × List Nat)} (hk : qv_k u o) (hl : qv_r l) (h : t.drop p = qv_t u o ++ l) (ht : t.length ≤ 60) : px_ve t p = some (p + (qv_t u o).length) := by
  have e : t.drop p = u ++ (qv_o o ++ l) := by
    rw [h]
    unfold qv_t
    rw [List.append_assoc]
  have hlen : (qv_t u o).length = u.length + (qv_o o).length := by
    unfold qv_t
    rw [List.length_append]
  have h2 := congrArg List.length h
  rw [List.length_drop, List.length_append] at h2
  unfold px_ve
  rw [px_un_u e hk.1 (qv_o_dg hk.2 hl), px_vl_o hl o 61 _ (qd_app e) hk.2 (by omega), hlen]
  congr 1
  omega
/-- isQuery reads over a query -/
theorem QQ.iq {lv : Nat} {s : List Nat} {f : Nat → Nat → List Nat} {j k : Nat} {A : (Nat → Option Int32) → Nat} (h : QQ lv s f j k A) (t : List Nat) (ht : t.length ≤ 60) : 0 < s.length ∧ ∀ p rest n w, t.drop p = s ++ rest → qv_r rest → t.length < p + n → ∃ n', t.length < p + s.length + n' ∧ px_iq t n p w false = px_iq t n' (p + s.length) w true := by
  refine h.ind (M := fun lv s f j k A => 0 < s.length ∧ ∀ p rest n w, t.drop p = s ++ rest → qv_r rest → t.length < p + n → ∃ n', t.length < p + s.length + n' ∧ px_iq t n p w false = px_iq t n' (p + s.length) w true) ⟨?_, ?_, ?_, ?_, ?_, ?_⟩
  · intro u o r u' o' h1 h2 h3
    refine ⟨QQ.cmp h1 h2 h3, by rw [List.length_append, List.length_cons]; omega, fun p rest n w e hr hn => ?_⟩
    have e1 : t.drop p = qv_t u o ++ (r :: (qv_t u' o' ++ rest)) := by
      rw [e, List.append_assoc]
      rfl
    have v1 := px_ve_t h1 (qv_r_rl h3) e1 ht
    have e2 := qd_app e1
    obtain ⟨g1, g2, g3⟩ := qd_cons e2
    have v2 := px_ve_t h2 hr g2 ht
    have hce : px_ce t p = some (p + (qv_t u o ++ r :: qv_t u' o').length) := by
      unfold px_ce
      rw [v1]
      dsimp only
      rw [if_pos (by rw [g1]; exact h3), v2, List.length_append, List.length_cons]
      congr 1
      omega
    have hh := qv_u_hd (l := qv_o o ++ (r :: (qv_t u' o' ++ rest))) h1.1
    have e3 : t.getD p 0 = (u ++ (qv_o o ++ (r :: (qv_t u' o' ++ rest)))).headD 0 := by
      rw [← qd_hd, e1]
      unfold qv_t
      rw [List.append_assoc]
    have hlt := px_ce_lt hce
    cases n with
    | zero => omega
    | succ n =>
      refine ⟨n, by omega, ?_⟩
      show (if p < t.length then _ else _) = _
      rw [if_pos (by omega), if_neg (by decide), if_neg (by rw [e3]; exact hh.2.2), if_neg (by rw [e3]; exact hh.2.1), hce]
  · intro s f j k A h
    refine ⟨h.1.neg, Nat.succ_pos _, fun p rest n w e hr hn => ?_⟩
    obtain ⟨g1, g2, g3⟩ := qd_cons e
    cases n with
    | zero => omega
    | succ n =>
      obtain ⟨n', a1, a2⟩ := h.2.2 (p + 1) rest n w g2 hr (by omega)
      refine ⟨n', by rw [List.length_cons]; omega, ?_⟩
      show (if p < t.length then _ else _) = _
      rw [if_pos g3, if_neg (by decide), if_pos g1, a2]
      congr 1
      show _ = p + (s.length + 1)
      omega
  · intro s f j k A h
    refine ⟨h.1.par, Nat.succ_pos _, fun p rest n w e hr hn => ?_⟩
    have e : t.drop p = 40 :: (s ++ (41 :: rest)) := by rw [e]; simp
    obtain ⟨g1, g2, g3⟩ := qd_cons e
    have hl : (40 :: (s ++ [41])).length = s.length + 2 := by simp
    cases n with
    | zero => omega
    | succ n =>
      obtain ⟨n', a1, a2⟩ := h.2.2 (p + 1) (41 :: rest) n (w + 1) g2 ⟨rfl, rfl⟩ (by omega)
      obtain ⟨b1, b2, b3⟩ := qd_cons (qd_app g2)
      cases n' with
      | zero => omega
      | succ n' =>
        refine ⟨n', by omega, ?_⟩
        show (if p < t.length then _ else _) = _
        rw [if_pos g3, if_neg (by decide), if_neg (by rw [g1]; decide), if_pos g1, a2]
        show (if p + 1 + s.length < t.length then _ else _) = _
        rw [if_pos b3, if_pos rfl, if_pos b1, if_neg (by omega), hl]
        show px_iq t n' (p + 1 + s.length + 1) (w + 1 - 1) true = _
        rw [Nat.add_sub_cancel, show p + 1 + s.length + 1 = p + (s.length + 2) by omega]
  · intro s f j k A s' f' j' k' A' h h'
    refine ⟨h.1.and h'.1, by rw [List.length_append, List.length_cons]; omega, fun p rest n w e hr hn => ?_⟩
    have e : t.drop p = s ++ (38 :: (s' ++ rest)) := by rw [e]; simp
    have hl : (s ++ 38 :: s').length = s.length + 1 + s'.length := by simp; omega
    obtain ⟨n1, a1, a2⟩ := h.2.2 p (38 :: (s' ++ rest)) n w e ⟨rfl, rfl⟩ hn
    obtain ⟨b1, b2, b3⟩ := qd_cons (qd_app e)
    cases n1 with
    | zero => omega
    | succ n1 =>
      obtain ⟨n2, c1, c2⟩ := h'.2.2 (p + s.length + 1) rest n1 w b2 hr (by omega)
      refine ⟨n2, by omega, ?_⟩
      rw [a2]
      show (if p + s.length < t.length then _ else _) = _
      rw [if_pos b3, if_pos rfl, if_neg (by rw [b1]; decide), if_pos (Or.inl b1), c2, hl, show p + s.length + 1 + s'.length = p + (s.length + 1 + s'.length) by omega]
  · intro s f j k A s' f' j' k' A' h h'
    refine ⟨h.1.or h'.1, by rw [List.length_append, List.length_cons]; omega, fun p rest n w e hr hn => ?_⟩
    have e : t.drop p = s ++ (124 :: (s' ++ rest)) := by rw [e]; simp
    have hl : (s ++ 124 :: s').length = s.length + 1 + s'.length := by simp; omega
    obtain ⟨n1, a1, a2⟩ := h.2.2 p (124 :: (s' ++ rest)) n w e ⟨rfl, rfl⟩ hn
    obtain ⟨b1, b2, b3⟩ := qd_cons (qd_app e)
    cases n1 with
    | zero => omega
    | succ n1 =>
      obtain ⟨n2, c1, c2⟩ := h'.2.2 (p + s.length + 1) rest n1 w b2 hr (by omega)
      refine ⟨n2, by omega, ?_⟩
      rw [a2]
      show (if p + s.length < t.length then _ else _) = _
      rw [if_pos b3, if_pos rfl, if_neg (by rw [b1]; decide), if_pos (Or.inr b1), c2, hl, show p + s.length + 1 + s'.length = p + (s.length + 1 + s'.length) by omega]
  · intro lv lv' s f j k A h hl
    exact ⟨h.1.up hl, h.2⟩
/-- the two readers take the same texts -/
theorem px_iq_i {t : List Nat} (ht : t.length ≤ 60) : px_iq t 61 0 0 false = true ↔ qq_X 2 t := by
  constructor
  · exact px_iq_q (by omega)
  · rintro ⟨f, j, k, A, h⟩
    obtain ⟨-, h2⟩ := h.iq t ht
    obtain ⟨n', a1, a2⟩ := h2 0 [] 61 0 (by rw [List.drop_zero, List.append_nil]) ⟨rfl, rfl⟩ (by omega)
    rw [a2]
    cases n' with
    | zero => omega
    | succ n' =>
      show (if 0 + t.length < t.length then _ else _) = _
      rw [if_neg (by omega)]
      rfl
theorem qx_i {E : Nat → Option Int32} {t : List Nat} {n : Nat} (hn : t.length ≤ n) : (∃ a, qx_an (qx_on E t.length n) t.length t = some ([], a)) ↔ qq_X 2 t := by
  constructor
  · rintro ⟨a, h⟩
    exact qx_query h
  · rintro ⟨f, j, k, A, h⟩
    exact ⟨_, h.reads E hn⟩
