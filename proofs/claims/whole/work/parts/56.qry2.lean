/-! The reference: valueEnd, comparisonEnd -/
theorem px_de_ge {t : List Nat} : ∀ n q, q ≤ px_de t n q
  | 0, q => Nat.le_refl _
  | n + 1, q => by
    unfold px_de
    split
    · exact Nat.le_trans (Nat.le_succ _) (px_de_ge n (q + 1))
    · exact Nat.le_refl _
theorem px_de_le {t : List Nat} : ∀ n q, px_de t n q = q ∨ px_de t n q ≤ t.length
  | 0, q => Or.inl rfl
  | n + 1, q => by
    unfold px_de
    split
    next h =>
      have := pc_dg_len h
      rcases px_de_le (t := t) n (q + 1) with g | g
      · exact Or.inr (by omega)
      · exact Or.inr g
    next => exact Or.inl rfl
theorem px_un_lt {t : List Nat} {p e : Nat} (h : px_un t p = some e) : p < e ∧ e ≤ t.length := by
  unfold px_un at h
  by_cases h1 : 97 ≤ t.getD p 0 ∧ t.getD p 0 ≤ 101
  · rw [if_pos h1] at h
    cases h
    refine ⟨Nat.lt_succ_self _, ?_⟩
    by_cases hq : p < t.length
    · exact hq
    · rw [px_getD_ge (by omega)] at h1
      omega
  · rw [if_neg h1] at h
    by_cases h2 : px_de t 61 p = p ∨ p + 4 < px_de t 61 p
    · rw [if_pos h2] at h
      cases h
    · rw [if_neg h2] at h
      cases h
      have a := px_de_ge (t := t) 61 p
      rcases px_de_le (t := t) 61 p with g | g
      · exact absurd (Or.inl g) h2
      · exact ⟨by omega, g⟩
def px_vl (t : List Nat) : Nat → Option Nat → Option Nat
  | 0, o => o
  | _ + 1, none => none
  | n + 1, some q => if pc_op (t.getD q 0) = true then px_vl t n (px_un t (q + 1)) else some q
/-- where a value from p on ends -/
def px_ve (t : List Nat) (p : Nat) : Option Nat := px_vl t 61 (px_un t p)
/-- where a comparison from p on ends -/
def px_ce (t : List Nat) (p : Nat) : Option Nat := match px_ve t p with
  | none => none
  | some q => if pc_rl (t.getD q 0) = true then px_ve t (q + 1) else none
theorem px_vl_le {t : List Nat} : ∀ (n : Nat) (o : Option Nat) {e p : Nat}, (∀ q, o = some q → p < q ∧ q ≤ t.length) → px_vl t n o = some e → p < e ∧ e ≤ t.length
  | 0, o, e, p, h, he => h e he
  | n + 1, none, e, p, h, he => by cases he
  | n + 1, some q, e, p, h, he => by
    unfold px_vl at he
    by_cases ho : pc_op (t.getD q 0) = true
    · rw [if_pos ho] at he
      refine px_vl_le n _ (fun q' hq' => ?_) he
      obtain ⟨a, b⟩ := px_un_lt hq'
      obtain ⟨c, -⟩ := h q rfl
      exact ⟨by omega, b⟩
    · rw [if_neg ho] at he
      exact h e he
theorem px_ve_lt {t : List Nat} {p e : Nat} (h : px_ve t p = some e) : p < e ∧ e ≤ t.length := px_vl_le 61 _ (fun _ hq => px_un_lt hq) h
theorem pc_op_len {t : List Nat} {q : Nat} (h : pc_op (t.getD q 0) = true) : q < t.length := by
  by_cases hq : q < t.length
  · exact hq
  · rw [px_getD_ge (by omega)] at h
    cases h
section MQ2
variable {l : Launch} {D : va_G} {aC : Nat → ClassId} {base : Nat} {h : jjHp} {y : Nat} {ad : Nat → Nat} {rh : Nat → List Nat} {sg : Nat → Nat → Int32} {mu : Nat → Int64} {io : Nat → Int32}
theorem rr_valueEnd {p0 : Nat} (hR : RR aC h y ad rh sg mu io) (hp0 : p0 ≤ 100) : jj_Ct l D aC base yn_MO_valueEnd yb_MO_valueEnd 3 (some .int) 2 0 0 [.ref y, .int (nI p0)] h (fun q h' => q = some (.int (px_oi (px_ve (rh 31) p0))) ∧ h' = h) := by
  obtain ⟨hlen, hch⟩ := hR.len (r := 31) (by decide)
  refine jj_start (tb := tb_MO_valueEnd) (by decide) tg_MO_valueEnd (Nat.le_of_ble_eq_true rfl) ?_
  intro p e s m args below meth cc C
  have hy := hR.oy
  have loop : ∀ (k : Nat) (o : Option Nat), (∀ q, o = some q → q ≤ (rh 31).length ∧ (rh 31).length < q + k) → px_vl (rh 31) k o = px_ve (rh 31) p0 → jj_J p l e (jj_rm 2 0 0) s m args below meth cc D base 3 (MQ below (jj_Q D base (fun q h' => q = some (.int (px_oi (px_ve (rh 31) p0))) ∧ h' = h)) args s 0 0 (jj_A base)) 6 [(0, .ref y), (1, .int (nI p0)), (2, .int (px_oi o))] [] h 0 0 := by
    intro k
    induction k with
    | zero =>
      intro o hb hG
      cases o with
      | some q => 
        have := hb q rfl
        omega
      | none =>
        have hG : none = px_ve (rh 31) p0 := hG
        refine jj_go C 1 rfl ?_
        refine jj_if C rfl (fun _ => ?_) (fun z => absurd (show px_oi none < 0 by decide) z)
        refine jj_go C 1 rfl ?_
        exact jj_iret C rfl rfl rfl (Nat.le_of_ble_eq_true rfl) (Nat.le_of_ble_eq_true rfl) ⟨by rw [← hG], rfl⟩
    | succ k ih =>
      intro o hb hG
      cases o with
      | none =>
        have hG : none = px_ve (rh 31) p0 := hG
        refine jj_go C 1 rfl ?_
        refine jj_if C rfl (fun _ => ?_) (fun z => absurd (show px_oi none < 0 by decide) z)
        refine jj_go C 1 rfl ?_
        exact jj_iret C rfl rfl rfl (Nat.le_of_ble_eq_true rfl) (Nat.le_of_ble_eq_true rfl) ⟨by rw [← hG], rfl⟩
      | some q =>
        have hG : (if pc_op ((rh 31).getD q 0) = true then px_vl (rh 31) k (px_un (rh 31) (q + 1)) else some q) = px_ve (rh 31) p0 := hG
        obtain ⟨hq1, hq2⟩ := hb q rfl
        have hcq := hch q
        refine jj_go C 1 rfl ?_
        refine jj_if C rfl (fun z => absurd z (nI_pos (show q < 2 ^ 31 by omega))) (fun _ => ?_)
        refine jj_go C 3 rfl ?_
        refine jj_callV C rfl ml_MO_83 wd_988 hy rfl se_MO_MO_get1 (rr_get1 (r := 31) (x := nI q) hR (by decide)) (rest := []) rfl rfl ⟨Nat.le_of_ble_eq_true rfl, Nat.le_of_ble_eq_true rfl⟩ (Nat.le_of_ble_eq_true rfl) (Nat.le_of_ble_eq_true rfl) (Nat.le_of_ble_eq_true rfl) ?_
        rintro q9 h9 ⟨rfl, hh9⟩
        rw [hh9]
        rw [jr_g_n (by omega)]
        refine jj_callS C rfl ml_MO_181 wd_1081 (mo_isOperator (c := (rh 31).getD q 0) (by omega)) (rest := []) rfl rfl ⟨Nat.le_of_ble_eq_true rfl, Nat.le_of_ble_eq_true rfl⟩ (Nat.le_of_ble_eq_true rfl) (Nat.le_of_ble_eq_true rfl) (Nat.le_of_ble_eq_true rfl) ?_
        rintro q9 h9 ⟨rfl, hh9⟩
        rw [hh9]
        rcases jb_cases (pc_op ((rh 31).getD q 0)) with ⟨e1, e2⟩ | ⟨e1, e2⟩
        · rw [e2]
          rw [if_pos e1] at hG
          have hlt := pc_op_len e1
          refine jj_if C rfl (fun z => absurd z (by decide)) (fun _ => ?_)
          refine jj_go C 4 rfl ?_
          refine jj_top (nI_1 q) ?_
          refine jj_callV C rfl ml_MO_178 wd_1078 hy rfl se_MO_MO_unit (rr_unit (p0 := q + 1) hR (by omega)) (rest := []) rfl rfl ⟨Nat.le_of_ble_eq_true rfl, Nat.le_of_ble_eq_true rfl⟩ (Nat.le_of_ble_eq_true rfl) (Nat.le_of_ble_eq_true rfl) (Nat.le_of_ble_eq_true rfl) ?_
          rintro q9 h9 ⟨rfl, hh9⟩
          rw [hh9]
          refine jj_go C 2 rfl ?_
          refine ih _ (fun q' hq' => ?_) hG
          have := px_un_lt hq'
          exact ⟨this.2, by omega⟩
        · rw [e2]
          rw [if_neg (by rw [e1]; decide)] at hG
          refine jj_if C rfl (fun _ => ?_) (fun z => absurd rfl z)
          refine jj_go C 1 rfl ?_
          exact jj_iret C rfl rfl rfl (Nat.le_of_ble_eq_true rfl) (Nat.le_of_ble_eq_true rfl) ⟨by rw [← hG], rfl⟩
  refine jj_go C 2 rfl ?_
  refine jj_callV C rfl ml_MO_178 wd_1078 hy rfl se_MO_MO_unit (rr_unit (p0 := p0) hR hp0) (rest := []) rfl rfl ⟨Nat.le_of_ble_eq_true rfl, Nat.le_of_ble_eq_true rfl⟩ (Nat.le_of_ble_eq_true rfl) (Nat.le_of_ble_eq_true rfl) (Nat.le_of_ble_eq_true rfl) ?_
  rintro q9 h9 ⟨rfl, hh9⟩
  rw [hh9]
  refine jj_go C 1 rfl ?_
  exact loop 61 _ (fun q hq => by have := px_un_lt hq; exact ⟨this.2, by omega⟩) rfl
theorem rr_comparisonEnd {p0 : Nat} (hR : RR aC h y ad rh sg mu io) (hp0 : p0 ≤ 99) : jj_Ct l D aC base yn_MO_comparisonEnd yb_MO_comparisonEnd 3 (some .int) 3 0 0 [.ref y, .int (nI p0)] h (fun q h' => q = some (.int (px_oi (px_ce (rh 31) p0))) ∧ h' = h) := by
  obtain ⟨hlen, hch⟩ := hR.len (r := 31) (by decide)
  refine jj_start (tb := tb_MO_comparisonEnd) (by decide) tg_MO_comparisonEnd (Nat.le_of_ble_eq_true rfl) ?_
  intro p e s m args below meth cc C
  have hy := hR.oy
  refine jj_go C 2 rfl ?_
  refine jj_callV C rfl ml_MO_184 wd_1074 hy rfl se_MO_MO_valueEnd (rr_valueEnd (p0 := p0) hR (by omega)) (rest := []) rfl rfl ⟨Nat.le_of_ble_eq_true rfl, Nat.le_of_ble_eq_true rfl⟩ (Nat.le_of_ble_eq_true rfl) (Nat.le_of_ble_eq_true rfl) (Nat.le_of_ble_eq_true rfl) ?_
  rintro q9 h9 ⟨rfl, hh9⟩
  rw [hh9]
  refine jj_go C 2 rfl ?_
  unfold px_ce
  cases hv : px_ve (rh 31) p0 with
  | none =>
    refine jj_if C rfl (fun _ => ?_) (fun z => absurd (show px_oi none < 0 by decide) z)
    refine jj_go C 1 rfl ?_
    exact jj_iret C rfl rfl rfl (Nat.le_of_ble_eq_true rfl) (Nat.le_of_ble_eq_true rfl) ⟨rfl, rfl⟩
  | some q =>
    have hlt := px_ve_lt hv
    have hcq := hch q
    refine jj_if C rfl (fun z => absurd z (nI_pos (show q < 2 ^ 31 by omega))) (fun _ => ?_)
    refine jj_go C 3 rfl ?_
    refine jj_callV C rfl ml_MO_83 wd_988 hy rfl se_MO_MO_get1 (rr_get1 (r := 31) (x := nI q) hR (by decide)) (rest := []) rfl rfl ⟨Nat.le_of_ble_eq_true rfl, Nat.le_of_ble_eq_true rfl⟩ (Nat.le_of_ble_eq_true rfl) (Nat.le_of_ble_eq_true rfl) (Nat.le_of_ble_eq_true rfl) ?_
    rintro q9 h9 ⟨rfl, hh9⟩
    rw [hh9]
    rw [jr_g_n (by omega)]
    refine jj_callS C rfl ml_MO_187 wd_1084 (mo_isRelation (c := (rh 31).getD q 0) (by omega)) (rest := []) rfl rfl ⟨Nat.le_of_ble_eq_true rfl, Nat.le_of_ble_eq_true rfl⟩ (Nat.le_of_ble_eq_true rfl) (Nat.le_of_ble_eq_true rfl) (Nat.le_of_ble_eq_true rfl) ?_
    rintro q9 h9 ⟨rfl, hh9⟩
    rw [hh9]
    dsimp only
    rcases jb_cases (pc_rl ((rh 31).getD q 0)) with ⟨e1, e2⟩ | ⟨e1, e2⟩
    · rw [e2, if_pos e1]
      refine jj_if C rfl (fun z => absurd z (by decide)) (fun _ => ?_)
      refine jj_go C 4 rfl ?_
      refine jj_top (nI_1 q) ?_
      refine jj_callV C rfl ml_MO_184 wd_1074 hy rfl se_MO_MO_valueEnd (rr_valueEnd (p0 := q + 1) hR (by omega)) (rest := []) rfl rfl ⟨Nat.le_of_ble_eq_true rfl, Nat.le_of_ble_eq_true rfl⟩ (Nat.le_of_ble_eq_true rfl) (Nat.le_of_ble_eq_true rfl) (Nat.le_of_ble_eq_true rfl) ?_
      rintro q9 h9 ⟨rfl, hh9⟩
      rw [hh9]
      refine jj_go C 1 rfl ?_
      exact jj_iret C rfl rfl rfl (Nat.le_of_ble_eq_true rfl) (Nat.le_of_ble_eq_true rfl) ⟨rfl, rfl⟩
    · rw [e2, if_neg (by rw [e1]; decide)]
      refine jj_if C rfl (fun _ => ?_) (fun z => absurd rfl z)
      refine jj_go C 1 rfl ?_
      exact jj_iret C rfl rfl rfl (Nat.le_of_ble_eq_true rfl) (Nat.le_of_ble_eq_true rfl) ⟨rfl, rfl⟩
end MQ2
