/-! Pure: the form of a name or pattern -/
def px_seg (t : List Nat) (p q : Nat) : List Nat := (t.drop p).take (q - p)
theorem px_seg_len {t : List Nat} {p q : Nat} (hq : q ≤ t.length) : (px_seg t p q).length = q - p := by
  unfold px_seg
  rw [List.length_take, List.length_drop]
  omega
theorem px_seg_nil {t : List Nat} {p : Nat} : px_seg t p p = [] := by
  unfold px_seg
  rw [Nat.sub_self, List.take_zero]
theorem px_seg_succ {t : List Nat} {p q : Nat} (hp : p ≤ q) (hq : q < t.length) : px_seg t p q ++ [t.getD q 0] = px_seg t p (q + 1) := by
  unfold px_seg
  have h1 : q - p < (t.drop p).length := by rw [List.length_drop]; omega
  have h2 : t.getD q 0 = (t.drop p).getD (q - p) 0 := by
    rw [List.getD_eq_getElem?_getD, List.getD_eq_getElem?_getD, List.getElem?_drop]
    congr 2
    omega
  rw [h2, px_take_succ h1, show q + 1 - p = q - p + 1 by omega]
/-- the properties in the order of their keys -/
def px_ord (t : List Nat) (P : Nat → Option Nat) : Nat → List Nat
  | 0 => []
  | j + 1 => match P j with
    | none => px_ord t P j
    | some p => px_ord t P j ++ ((if px_ord t P j = [] then [] else [44]) ++ px_seg t p (px_re t true (p + 2)))
def px_tail (u : List Nat) (op : Bool) : List Nat := if op then (if u = [] then [42] else [44, 42]) else []
def px_form (t : List Nat) (d : Nat) (P : Nat → Option Nat) (op : Bool) : List Nat := px_seg t 0 (d + 1) ++ (px_ord t P 26 ++ px_tail (px_ord t P 26) op)
theorem px_ord_none {t : List Nat} {P : Nat → Option Nat} {j : Nat} (h : P j = none) : px_ord t P (j + 1) = px_ord t P j := by
  show (match P j with | none => px_ord t P j | some p => px_ord t P j ++ ((if px_ord t P j = [] then [] else [44]) ++ px_seg t p (px_re t true (p + 2)))) = _
  rw [h]
theorem px_ord_some {t : List Nat} {P : Nat → Option Nat} {j p : Nat} (h : P j = some p) : px_ord t P (j + 1) = px_ord t P j ++ ((if px_ord t P j = [] then [] else [44]) ++ px_seg t p (px_re t true (p + 2))) := by
  show (match P j with | none => px_ord t P j | some p => px_ord t P j ++ ((if px_ord t P j = [] then [] else [44]) ++ px_seg t p (px_re t true (p + 2)))) = _
  rw [h]
theorem px_ord_mono {t : List Nat} {P : Nat → Option Nat} {j : Nat} : (px_ord t P j).length ≤ (px_ord t P (j + 1)).length := by
  cases h : P j with
  | none => rw [px_ord_none h]; exact Nat.le_refl _
  | some p => rw [px_ord_some h, List.length_append]; exact Nat.le_add_right _ _
theorem px_ord_le {t : List Nat} {P : Nat → Option Nat} {j : Nat} : ∀ k, (px_ord t P j).length ≤ (px_ord t P (j + k)).length
  | 0 => Nat.le_refl _
  | k + 1 => Nat.le_trans (px_ord_le k) px_ord_mono
theorem px_ord_26 {t : List Nat} {P : Nat → Option Nat} {j : Nat} (hj : j ≤ 26) : (px_ord t P j).length ≤ (px_ord t P 26).length := by
  have := px_ord_le (t := t) (P := P) (j := j) (26 - j)
  rw [show j + (26 - j) = 26 by omega] at this
  exact this
/-- what holds of the places that a list's reading gave -/
def px_V (t : List Nat) (P : Nat → Option Nat) : Prop := ∀ k p, k < 26 → P k = some p → p + 2 ≤ px_re t true (p + 2) ∧ px_re t true (p + 2) ≤ t.length
theorem jj_sb_tr {h h1 h2 : jjHp} {o b b1 b2 : Nat} {e1 : va_E} (hf : jj_fr [o, b] h h1) (ho1 : h1 o = some e1) (hb1 : b1 = b ∨ h b1 = none) (hf2 : jj_fr [o, b1] h1 h2) (hb2 : b2 = b1 ∨ h1 b2 = none) : jj_fr [o, b] h h2 ∧ (b2 = b ∨ h b2 = none) := by
  refine ⟨fun c e hc hh => hf2 c e (fun q => ?_) (hf c e hc hh), ?_⟩
  · rcases List.mem_cons.mp q with q | q
    · exact hc (by rw [q]; exact List.mem_cons_self)
    · have q := List.mem_singleton.mp q
      rcases hb1 with hb1 | hb1
      · exact hc (by rw [q, hb1]; exact List.mem_cons_of_mem _ List.mem_cons_self)
      · rw [q, hb1] at hh
        cases hh
  · rcases hb2 with hb2 | hb2
    · rw [hb2]
      exact hb1
    · by_cases hb : b2 = b
      · exact Or.inl hb
      · refine Or.inr ?_
        cases hv : h b2 with
        | none => rfl
        | some e =>
          have hbo : b2 ≠ o := fun q => by rw [q, ho1] at hb2; cases hb2
          have := hf b2 e (fun q => by
            rcases List.mem_cons.mp q with q | q
            · exact hbo q
            · exact hb (List.mem_singleton.mp q)) hv
          rw [hb2] at this
          cases this
