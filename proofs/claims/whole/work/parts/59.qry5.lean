/-! Pure: the reader's words on what is left of a text -/
def qx_nu : Nat → List Nat → Int32 → List Nat × Int32
  | 0, l, v => (l, v)
  | n + 1, l, v => if pc_dg (l.headD 0) = true then qx_nu n l.tail (v * 10 + (nI (l.headD 0) - 48)) else (l, v)
/-- a unit: what is left, its value, does it fail -/
def qx_un (E : Nat → Option Int32) (l : List Nat) : Option (List Nat × Int32 × Bool) :=
  if 97 ≤ l.headD 0 ∧ l.headD 0 ≤ 101 then some (l.tail, (E (l.headD 0 - 97)).getD 0, (E (l.headD 0 - 97)).isNone)
  else if pc_dg (l.headD 0) = true then some ((qx_nu 4 l 0).1, (qx_nu 4 l 0).2, false) else none
def qx_pl (E : Nat → Option Int32) : Nat → List Nat → Int32 → Bool → Option (List Nat × Int32 × Bool)
  | 0, l, v, b => some (l, v, b)
  | n + 1, l, v, b =>
    if l.headD 0 = 42 ∨ l.headD 0 = 47 then
      match qx_un E l.tail with
      | none => none
      | some r => if l.headD 0 = 42 then qx_pl E n r.1 (v * r.2.1) (b || r.2.2) else if r.2.1 = 0 then qx_pl E n r.1 v true else qx_pl E n r.1 (v / r.2.1) (b || r.2.2)
    else some (l, v, b)
def qx_pr (E : Nat → Option Int32) (N : Nat) (l : List Nat) (b : Bool) : Option (List Nat × Int32 × Bool) := match qx_un E l with
  | none => none
  | some r => qx_pl E N r.1 r.2.1 (b || r.2.2)
def qx_sl (E : Nat → Option Int32) (N : Nat) : Nat → List Nat → Int32 → Bool → Option (List Nat × Int32 × Bool)
  | 0, l, v, b => some (l, v, b)
  | n + 1, l, v, b =>
    if l.headD 0 = 43 ∨ l.headD 0 = 45 then
      match qx_pr E N l.tail b with
      | none => none
      | some r => qx_sl E N n r.1 (if l.headD 0 = 43 then v + r.2.1 else v - r.2.1) r.2.2
    else some (l, v, b)
def qx_su (E : Nat → Option Int32) (N : Nat) (l : List Nat) (b : Bool) : Option (List Nat × Int32 × Bool) := match qx_pr E N l b with
  | none => none
  | some r => qx_sl E N N r.1 r.2.1 r.2.2
def qx_cm (x : Int32) (c : Nat) (z : Int32) : Bool := (c == 61 && decide (x = z)) || ((c == 60 && decide (x < z)) || ((c == 62 && decide (z < x)) || (c == 35 && !decide (x = z))))
def qx_co (E : Nat → Option Int32) (N : Nat) (l : List Nat) : Option (List Nat × Nat) := match qx_su E N l false with
  | none => none
  | some r => if pc_rl (r.1.headD 0) = true then
      match qx_su E N r.1.tail r.2.2 with
      | none => none
      | some w => some (w.1, if w.2.2 = true then 2 else if qx_cm r.2.1 (r.1.headD 0) w.2.1 = true then 1 else 0)
    else none
def qx_ng (a : Nat) : Nat := if a = 2 then 2 else 1 - a
def qx_ll (f : List Nat → Option (List Nat × Nat)) (c k : Nat) : Nat → List Nat → Nat → Option (List Nat × Nat)
  | 0, l, a => some (l, a)
  | n + 1, l, a => if l.headD 0 = c then
      match f l.tail with
      | none => none
      | some r => qx_ll f c k n r.1 (if a = k then r.2 else a)
    else some (l, a)
def qx_al (f : List Nat → Option (List Nat × Nat)) (N : Nat) (l : List Nat) : Option (List Nat × Nat) := match f l with
  | none => none
  | some r => qx_ll f 38 1 N r.1 r.2
def qx_an (f : List Nat → Option (List Nat × Nat)) (N : Nat) (l : List Nat) : Option (List Nat × Nat) := match qx_al f N l with
  | none => none
  | some r => qx_ll (qx_al f N) 124 0 N r.1 r.2
def qx_on (E : Nat → Option Int32) (N : Nat) : Nat → List Nat → Option (List Nat × Nat)
  | 0 => fun _ => none
  | n + 1 => fun l =>
    if l.headD 0 = 33 then
      match qx_on E N n l.tail with
      | none => none
      | some r => some (r.1, qx_ng r.2)
    else if l.headD 0 = 40 then
      match qx_an (qx_on E N n) N l.tail with
      | none => none
      | some r => if r.1.headD 0 = 41 then some (r.1.tail, r.2) else none
    else qx_co E N l
/-! values as texts -/
def qv_u (u : List Nat) : Prop := (∃ c, u = [c] ∧ 97 ≤ c ∧ c ≤ 101) ∨ (u ≠ [] ∧ u.length ≤ 4 ∧ ∀ c, c ∈ u → pc_dg c = true)
def qv_n (v : Int32) (u : List Nat) : Int32 := u.foldl (fun v c => v * 10 + (nI c - 48)) v
def qv_e (E : Nat → Option Int32) (u : List Nat) : Int32 × Bool := if 97 ≤ u.headD 0 ∧ u.headD 0 ≤ 101 then ((E (u.headD 0 - 97)).getD 0, (E (u.headD 0 - 97)).isNone) else (qv_n 0 u, false)
def qv_o : List (Nat × List Nat) → List Nat
  | [] => []
  | x :: o => x.1 :: (x.2 ++ qv_o o)
def qv_t (u : List Nat) (o : List (Nat × List Nat)) : List Nat := u ++ qv_o o
def qv_k (u : List Nat) (o : List (Nat × List Nat)) : Prop := qv_u u ∧ ∀ x, x ∈ o → pc_op x.1 = true ∧ qv_u x.2
def qv_f (E : Nat → Option Int32) (z : Int32 → Int32) : List (Nat × List Nat) → Int32 → Bool → Int32 → Bool → Int32 × Bool
  | [], s, p, x, b => (if p = true then s + x else s - x, b)
  | k :: o, s, p, x, b =>
    if k.1 = 42 then qv_f E z o s p (x * (qv_e E k.2).1) (b || (qv_e E k.2).2)
    else if k.1 = 47 then (if (qv_e E k.2).1 = 0 then qv_f E z o s p (z x) true else qv_f E z o s p (x / (qv_e E k.2).1) (b || (qv_e E k.2).2))
    else qv_f E z o (if p = true then s + x else s - x) (k.1 == 43) (qv_e E k.2).1 (b || (qv_e E k.2).2)
/-- a value: with what failed before -/
def qv_v (E : Nat → Option Int32) (z : Int32 → Int32) (u : List Nat) (o : List (Nat × List Nat)) (b : Bool) : Int32 × Bool := qv_f E z o 0 true (qv_e E u).1 (b || (qv_e E u).2)
theorem qv_f_z {E : Nat → Option Int32} {z z' : Int32 → Int32} : ∀ (o : List (Nat × List Nat)) (s s' : Int32) (p : Bool) (x x' : Int32) (b : Bool), (b = false → s = s' ∧ x = x') → (qv_f E z o s p x b).2 = (qv_f E z' o s' p x' b).2 ∧ ((qv_f E z o s p x b).2 = false → (qv_f E z o s p x b).1 = (qv_f E z' o s' p x' b).1)
  | [], s, s', p, x, x', b, h => ⟨rfl, fun hb => by
    obtain ⟨h1, h2⟩ := h hb
    rw [h1, h2]
    rfl⟩
  | k :: o, s, s', p, x, x', b, h => by
    unfold qv_f
    by_cases h1 : k.1 = 42
    · rw [if_pos h1, if_pos h1]
      refine qv_f_z o _ _ _ _ _ _ (fun hb => ?_)
      obtain ⟨a1, a2⟩ := h (by cases b with | false => rfl | true => cases hb)
      rw [a1, a2]
      exact ⟨rfl, rfl⟩
    rw [if_neg h1, if_neg h1]
    by_cases h2 : k.1 = 47
    · rw [if_pos h2, if_pos h2]
      by_cases h3 : (qv_e E k.2).1 = 0
      · rw [if_pos h3, if_pos h3]
        exact qv_f_z o _ _ _ _ _ _ (fun hb => by cases hb)
      · rw [if_neg h3, if_neg h3]
        refine qv_f_z o _ _ _ _ _ _ (fun hb => ?_)
        obtain ⟨a1, a2⟩ := h (by cases b with | false => rfl | true => cases hb)
        rw [a1, a2]
        exact ⟨rfl, rfl⟩
    · rw [if_neg h2, if_neg h2]
      refine qv_f_z o _ _ _ _ _ _ (fun hb => ?_)
      obtain ⟨a1, a2⟩ := h (by cases b with | false => rfl | true => cases hb)
      rw [a1, a2]
      exact ⟨rfl, rfl⟩
theorem qx_nu_dg : ∀ (u : List Nat) (n : Nat) (l : List Nat) (v : Int32), (∀ c, c ∈ u → pc_dg c = true) → u.length ≤ n → (u.length = n ∨ pc_dg (l.headD 0) = false) → qx_nu n (u ++ l) v = (l, qv_n v u)
  | [], 0, l, v, _, _, _ => rfl
  | [], n + 1, l, v, _, _, h => by
    have h : pc_dg (l.headD 0) = false := by
      rcases h with h | h
      · cases h
      · exact h
    rw [List.nil_append]
    unfold qx_nu
    rw [h]
    rfl
  | c :: u, 0, l, v, _, h, _ => by cases h
  | c :: u, n + 1, l, v, hu, hn, h => by
    show (if pc_dg c = true then qx_nu n (u ++ l) (v * 10 + (nI c - 48)) else (c :: (u ++ l), v)) = _
    rw [if_pos (hu c List.mem_cons_self), qx_nu_dg u n l _ (fun c hc => hu c (List.mem_cons_of_mem _ hc)) (Nat.le_of_succ_le_succ hn) (by
      rcases h with h | h
      · exact Or.inl (Nat.succ.inj h)
      · exact Or.inr h)]
    rfl
theorem qx_un_u {E : Nat → Option Int32} {u l : List Nat} (hu : qv_u u) (hl : pc_dg (l.headD 0) = false) : qx_un E (u ++ l) = some (l, qv_e E u) := by
  rcases hu with ⟨c, rfl, h1, h2⟩ | ⟨hne, hlen, hd⟩
  · unfold qx_un qv_e
    show (if 97 ≤ c ∧ c ≤ 101 then _ else _) = _
    rw [if_pos ⟨h1, h2⟩]
    show _ = some (l, if 97 ≤ c ∧ c ≤ 101 then _ else _)
    rw [if_pos ⟨h1, h2⟩]
    rfl
  · cases u with
    | nil => exact absurd rfl hne
    | cons c u =>
      have hc := hd c List.mem_cons_self
      have hc' := pc_dg_i.mp hc
      unfold qx_un qv_e
      rw [qx_nu_dg (c :: u) 4 l 0 hd hlen (Or.inr hl)]
      show (if 97 ≤ c ∧ c ≤ 101 then _ else if pc_dg c = true then _ else _) = some (l, if 97 ≤ c ∧ c ≤ 101 then _ else _)
      rw [if_neg (by omega), if_pos hc, if_neg (by omega)]
theorem qv_u_hd {u l : List Nat} (hu : qv_u u) : (u ++ l).headD 0 ≠ 42 ∧ (u ++ l).headD 0 ≠ 40 ∧ (u ++ l).headD 0 ≠ 33 := by
  rcases hu with ⟨c, rfl, h1, h2⟩ | ⟨hne, hlen, hd⟩
  · show c ≠ 42 ∧ c ≠ 40 ∧ c ≠ 33
    omega
  · cases u with
    | nil => exact absurd rfl hne
    | cons c u =>
      have hc := pc_dg_i.mp (hd c List.mem_cons_self)
      show c ≠ 42 ∧ c ≠ 40 ∧ c ≠ 33
      omega
theorem pc_op_dg {c : Nat} (h : pc_op c = true) : pc_dg c = false := by
  unfold pc_op at h
  simp only [Bool.or_eq_true, beq_iff_eq] at h
  rcases h with rfl | rfl | rfl | rfl <;> rfl
theorem pc_op_i {c : Nat} : pc_op c = true ↔ c = 43 ∨ c = 45 ∨ c = 42 ∨ c = 47 := by
  unfold pc_op
  simp only [Bool.or_eq_true, beq_iff_eq]
/-- nothing that goes on with a value -/
def qv_r (l : List Nat) : Prop := pc_dg (l.headD 0) = false ∧ pc_op (l.headD 0) = false
theorem qv_o_dg {o : List (Nat × List Nat)} {l : List Nat} (ho : ∀ x, x ∈ o → pc_op x.1 = true ∧ qv_u x.2) (hl : qv_r l) : pc_dg ((qv_o o ++ l).headD 0) = false := by
  cases o with
  | nil => exact hl.1
  | cons x o => exact pc_op_dg (ho x List.mem_cons_self).1
theorem qx_pl_o {E : Nat → Option Int32} {l : List Nat} (hl : qv_r l) : ∀ (o : List (Nat × List Nat)) (n : Nat) (x : Int32) (b : Bool), (∀ x, x ∈ o → pc_op x.1 = true ∧ qv_u x.2) → (qv_o o).length ≤ n → ∃ o' x' b', qx_pl E n (qv_o o ++ l) x b = some (qv_o o' ++ l, x', b') ∧ (∀ s p, qv_f E id o s p x b = qv_f E id o' s p x' b') ∧ (∀ x, x ∈ o' → pc_op x.1 = true ∧ qv_u x.2) ∧ (∀ x r, o' = x :: r → x.1 = 43 ∨ x.1 = 45) ∧ (qv_o o').length ≤ (qv_o o).length
  | [], n, x, b, _, _ => by
    refine ⟨[], x, b, ?_, fun _ _ => rfl, fun _ h => (by cases h), fun _ _ h => (by cases h), Nat.le_refl _⟩
    cases n with
    | zero => rfl
    | succ n =>
      show (if l.headD 0 = 42 ∨ l.headD 0 = 47 then _ else some (l, x, b)) = _
      rw [if_neg (fun q => by
        have := hl.2
        rcases q with q | q <;> rw [q] at this <;> cases this)]
      rfl
  | k :: o, 0, x, b, _, h => by cases h
  | k :: o, n + 1, x, b, ho, hn => by
    obtain ⟨k1, k2⟩ := ho k List.mem_cons_self
    have ho' : ∀ x, x ∈ o → pc_op x.1 = true ∧ qv_u x.2 := fun x hx => ho x (List.mem_cons_of_mem _ hx)
    have hn' : (qv_o o).length ≤ n := by
      have : (qv_o (k :: o)).length = k.2.length + (qv_o o).length + 1 := by
        show (k.1 :: (k.2 ++ qv_o o)).length = _
        rw [List.length_cons, List.length_append]
      omega
    have hle : (qv_o o).length ≤ (qv_o (k :: o)).length := by
      show _ ≤ (k.1 :: (k.2 ++ qv_o o)).length
      rw [List.length_cons, List.length_append]
      omega
    have hu := qx_un_u (E := E) (l := qv_o o ++ l) k2 (qv_o_dg ho' hl)
    have e1 : qv_o (k :: o) ++ l = k.1 :: (k.2 ++ (qv_o o ++ l)) := by
      show k.1 :: (k.2 ++ qv_o o) ++ l = _
      rw [List.cons_append, List.append_assoc]
    by_cases hk : k.1 = 42 ∨ k.1 = 47
    · have e2 : ∀ s p, qv_f E id (k :: o) s p x b = (if k.1 = 42 then qv_f E id o s p (x * (qv_e E k.2).1) (b || (qv_e E k.2).2) else (if (qv_e E k.2).1 = 0 then qv_f E id o s p x true else qv_f E id o s p (x / (qv_e E k.2).1) (b || (qv_e E k.2).2))) := by
        intro s p
        show (if k.1 = 42 then _ else if k.1 = 47 then _ else _) = _
        by_cases h4 : k.1 = 42
        · rw [if_pos h4, if_pos h4]
        · have h7 : k.1 = 47 := hk.resolve_left h4
          rw [if_neg h4, if_neg h4, if_pos h7]
          rfl
      have e3 : qx_pl E (n + 1) (qv_o (k :: o) ++ l) x b = (if k.1 = 42 then qx_pl E n (qv_o o ++ l) (x * (qv_e E k.2).1) (b || (qv_e E k.2).2) else if (qv_e E k.2).1 = 0 then qx_pl E n (qv_o o ++ l) x true else qx_pl E n (qv_o o ++ l) (x / (qv_e E k.2).1) (b || (qv_e E k.2).2)) := by
        rw [e1]
        show (if k.1 = 42 ∨ k.1 = 47 then (match qx_un E (k.2 ++ (qv_o o ++ l)) with | none => none | some r => if k.1 = 42 then qx_pl E n r.1 (x * r.2.1) (b || r.2.2) else if r.2.1 = 0 then qx_pl E n r.1 x true else qx_pl E n r.1 (x / r.2.1) (b || r.2.2)) else some (k.1 :: (k.2 ++ (qv_o o ++ l)), x, b)) = _
        rw [if_pos hk, hu]
      rw [e3]
      by_cases h4 : k.1 = 42
      · rw [if_pos h4]
        obtain ⟨o', x', b', a1, a2, a3, a4, a5⟩ := qx_pl_o hl o n (x * (qv_e E k.2).1) (b || (qv_e E k.2).2) ho' hn'
        exact ⟨o', x', b', a1, fun s p => by rw [e2, if_pos h4]; exact a2 s p, a3, a4, by omega⟩
      · rw [if_neg h4]
        by_cases h0 : (qv_e E k.2).1 = 0
        · rw [if_pos h0]
          obtain ⟨o', x', b', a1, a2, a3, a4, a5⟩ := qx_pl_o hl o n x true ho' hn'
          exact ⟨o', x', b', a1, fun s p => by rw [e2, if_neg h4, if_pos h0]; exact a2 s p, a3, a4, by omega⟩
        · rw [if_neg h0]
          obtain ⟨o', x', b', a1, a2, a3, a4, a5⟩ := qx_pl_o hl o n (x / (qv_e E k.2).1) (b || (qv_e E k.2).2) ho' hn'
          exact ⟨o', x', b', a1, fun s p => by rw [e2, if_neg h4, if_neg h0]; exact a2 s p, a3, a4, by omega⟩
    · refine ⟨k :: o, x, b, ?_, fun _ _ => rfl, ho, fun x' r hq => ?_, Nat.le_refl _⟩
      · rw [e1]
        show (if k.1 = 42 ∨ k.1 = 47 then _ else some (k.1 :: (k.2 ++ (qv_o o ++ l)), x, b)) = _
        rw [if_neg hk]
      · cases hq
        have := pc_op_i.mp k1
        omega
theorem qx_sl_o {E : Nat → Option Int32} {N : Nat} {l : List Nat} (hl : qv_r l) : ∀ (n : Nat) (o : List (Nat × List Nat)) (s : Int32) (p : Bool) (x : Int32) (b : Bool), (∀ x, x ∈ o → pc_op x.1 = true ∧ qv_u x.2) → (∀ x r, o = x :: r → x.1 = 43 ∨ x.1 = 45) → (qv_o o).length ≤ n → (qv_o o).length ≤ N → qx_sl E N n (qv_o o ++ l) (if p = true then s + x else s - x) b = some (l, qv_f E id o s p x b)
  | n, [], s, p, x, b, _, _, _, _ => by
    cases n with
    | zero => rfl
    | succ n =>
      show (if l.headD 0 = 43 ∨ l.headD 0 = 45 then _ else some (l, _, b)) = _
      rw [if_neg (fun q => by
        have := hl.2
        rcases q with q | q <;> rw [q] at this <;> cases this)]
      rfl
  | 0, k :: o, s, p, x, b, _, _, h, _ => by cases h
  | n + 1, k :: o, s, p, x, b, ho, hh, hn, hN => by
    obtain ⟨k1, k2⟩ := ho k List.mem_cons_self
    have ho' : ∀ x, x ∈ o → pc_op x.1 = true ∧ qv_u x.2 := fun x hx => ho x (List.mem_cons_of_mem _ hx)
    have hlen : (qv_o (k :: o)).length = k.2.length + (qv_o o).length + 1 := by
      show (k.1 :: (k.2 ++ qv_o o)).length = _
      rw [List.length_cons, List.length_append]
    have hu := qx_un_u (E := E) (l := qv_o o ++ l) k2 (qv_o_dg ho' hl)
    have e1 : qv_o (k :: o) ++ l = k.1 :: (k.2 ++ (qv_o o ++ l)) := by
      show k.1 :: (k.2 ++ qv_o o) ++ l = _
      rw [List.cons_append, List.append_assoc]
    have hk := hh k o rfl
    obtain ⟨o', x', b', a1, a2, a3, a4, a5⟩ := qx_pl_o (E := E) hl o N (qv_e E k.2).1 (b || (qv_e E k.2).2) ho' (by omega)
    have hpr : qx_pr E N (k.2 ++ (qv_o o ++ l)) b = some (qv_o o' ++ l, x', b') := by
      unfold qx_pr
      rw [hu]
      exact a1
    rw [e1]
    show (if k.1 = 43 ∨ k.1 = 45 then (match qx_pr E N (k.2 ++ (qv_o o ++ l)) b with | none => none | some r => qx_sl E N n r.1 (if k.1 = 43 then (if p = true then s + x else s - x) + r.2.1 else (if p = true then s + x else s - x) - r.2.1) r.2.2) else _) = _
    rw [if_pos hk, hpr]
    have e2 : qv_f E id (k :: o) s p x b = qv_f E id o (if p = true then s + x else s - x) (k.1 == 43) (qv_e E k.2).1 (b || (qv_e E k.2).2) := by
      show (if k.1 = 42 then _ else if k.1 = 47 then _ else _) = _
      rw [if_neg (by omega), if_neg (by omega)]
    rw [e2, a2]
    have := qx_sl_o (E := E) (N := N) hl n o' (if p = true then s + x else s - x) (k.1 == 43) x' b' a3 a4 (by omega) (by omega)
    rw [← this]
    dsimp only
    by_cases h43 : k.1 = 43
    · rw [if_pos h43, h43]
      rfl
    · rw [if_neg h43, show (k.1 == 43) = false from beq_eq_false_iff_ne.mpr h43]
      rfl
/-- the reader reads a value's text -/
theorem qx_su_t {E : Nat → Option Int32} {N : Nat} {u : List Nat} {o : List (Nat × List Nat)} {l : List Nat} {b : Bool} (hk : qv_k u o) (hl : qv_r l) (hN : (qv_t u o).length ≤ N) : qx_su E N (qv_t u o ++ l) b = some (l, qv_v E id u o b) := by
  obtain ⟨hu, ho⟩ := hk
  have h1 := qx_un_u (E := E) (l := qv_o o ++ l) hu (qv_o_dg ho hl)
  have hlen : (qv_o o).length ≤ N := by
    unfold qv_t at hN
    rw [List.length_append] at hN
    omega
  obtain ⟨o', x', b', a1, a2, a3, a4, a5⟩ := qx_pl_o (E := E) hl o N (qv_e E u).1 (b || (qv_e E u).2) ho hlen
  have hpr : qx_pr E N (qv_t u o ++ l) b = some (qv_o o' ++ l, x', b') := by
    unfold qx_pr qv_t
    rw [List.append_assoc, h1]
    exact a1
  unfold qx_su
  rw [hpr]
  dsimp only
  have := qx_sl_o (E := E) (N := N) hl N o' 0 true x' b' a3 a4 (by omega) (by omega)
  rw [if_pos rfl] at this
  unfold qv_v
  rw [a2, ← this]
  congr 1
  exact (Int32.zero_add x').symm
