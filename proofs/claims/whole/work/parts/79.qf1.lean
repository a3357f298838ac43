/-! The class's QueryForm -/
def qf_F : List Nat → (Nat → Int32) → Prop
  | [], _ => True
  | x :: st, F => F st.length = nI x ∧ qf_F st F
theorem qf_F_u {F : Nat → Int32} {k : Nat} {v : Int32} : ∀ st : List Nat, st.length ≤ k → qf_F st F → qf_F st (upd F k v)
  | [], _, _ => trivial
  | x :: st, hk, h => by
    have hk : st.length + 1 ≤ k := hk
    refine ⟨?_, qf_F_u st (by omega) h.2⟩
    unfold upd
    rw [if_neg (by omega)]
    exact h.1
/-- a QueryForm: what is written, what is not closed yet -/
def QFS (aC : Nat → ClassId) (h : jjHp) (qf tx txb sb op bb mm : Nat) (t o st : List Nat) : Prop := h qf = some (.inr (6, [.ref tx, .ref sb, .ref op, .int (nI st.length)])) ∧ kx_ST aC h tx txb t ∧ kx_SB aC h sb bb mm o ∧ (∃ F, h op = some (.inl (aC 0, 8, .inl F)) ∧ qf_F st F) ∧ op ≠ bb ∧ txb ≠ bb ∧ txb ≠ op
theorem qf_tr {h h1 h2 : jjHp} {S : List Nat} {b b1 b2 : Nat} (hf : jj_fr (b :: S) h h1) (hS : ∀ c, c ∈ S → ∃ e, h1 c = some e) (hb1 : b1 = b ∨ h b1 = none) (hf2 : jj_fr (b1 :: S) h1 h2) (hb2 : b2 = b1 ∨ h1 b2 = none) : jj_fr (b :: S) h h2 ∧ (b2 = b ∨ h b2 = none) := by
  constructor
  · intro c e hc hh
    refine hf2 c e (fun q => ?_) (hf c e hc hh)
    rcases List.mem_cons.mp q with q | q
    · rcases hb1 with hb1 | hb1
      · exact hc (by rw [q, hb1]; exact List.mem_cons_self)
      · rw [q, hb1] at hh
        cases hh
    · exact hc (List.mem_cons_of_mem _ q)
  · rcases hb2 with hb2 | hb2
    · rw [hb2]
      exact hb1
    · by_cases hb : b2 = b
      · exact Or.inl hb
      · refine Or.inr ?_
        cases hv : h b2 with
        | none => rfl
        | some e =>
          by_cases hm : b2 ∈ S
          · obtain ⟨e', he'⟩ := hS b2 hm
            rw [hb2] at he'
            cases he'
          · have := hf b2 e (fun q => by
              rcases List.mem_cons.mp q with q | q
              · exact hb q
              · exact hm q) hv
            rw [hb2] at this
            cases this
section QFA
variable {l : Launch} {D : va_G} {aC : Nat → ClassId} {base : Nat} {h : jjHp} {qf tx txb sb op bb mm : Nat} {t o st : List Nat}
theorem qf_isDigit {c : Nat} (hc : c < 128) : jj_Ct l D aC base yn_QF_isDigit yb_QF_isDigit 1 (some .boolean) 0 0 0 [.int (nI c)] h (fun q h' => q = some (.int (jb_I (pc_dg c))) ∧ h' = h) := by
  refine jj_start (tb := tb_QF_isDigit) (by decide) tg_QF_isDigit (Nat.le_of_ble_eq_true rfl) ?_
  intro p e s m args below meth cc C
  refine jj_go C 2 rfl ?_
  refine jj_if C rfl (fun z => ?_) (fun z => ?_)
  · have g := (nI_ltI (a := c) (b := 48) (by omega) (by decide)).mp z
    refine jj_go C 1 rfl ?_
    exact jj_iret C rfl rfl rfl (Nat.le_of_ble_eq_true rfl) (Nat.le_of_ble_eq_true rfl) ⟨by rw [pb_f pc_dg_i (by omega)]; rfl, rfl⟩
  · have g : ¬ c < 48 := fun q => z ((nI_ltI (a := c) (b := 48) (by omega) (by decide)).mpr q)
    refine jj_go C 2 rfl ?_
    refine jj_if C rfl (fun z2 => ?_) (fun z2 => ?_)
    · have g2 := (nI_ltI (a := 57) (b := c) (by decide) (by omega)).mp z2
      refine jj_go C 1 rfl ?_
      exact jj_iret C rfl rfl rfl (Nat.le_of_ble_eq_true rfl) (Nat.le_of_ble_eq_true rfl) ⟨by rw [pb_f pc_dg_i (by omega)]; rfl, rfl⟩
    · have g2 : ¬ 57 < c := fun q => z2 ((nI_ltI (a := 57) (b := c) (by decide) (by omega)).mpr q)
      refine jj_go C 2 rfl ?_
      exact jj_iret C rfl rfl rfl (Nat.le_of_ble_eq_true rfl) (Nat.le_of_ble_eq_true rfl) ⟨by rw [pc_dg_i.mpr ⟨by omega, by omega⟩]; rfl, rfl⟩
theorem qf_isNeeded {b j e0 : Nat} (hb : b < 128) (hj : j < 128) (he : e0 < 128) : jj_Ct l D aC base yn_QF_isNeeded yb_QF_isNeeded 3 (some .boolean) 0 0 0 [.int (nI b), .int (nI j), .int (nI e0)] h (fun q h' => q = some (.int (jb_I (qq_nd b j e0))) ∧ h' = h) := by
  unfold qq_nd
  refine jj_start (tb := tb_QF_isNeeded) (by decide) tg_QF_isNeeded (Nat.le_of_ble_eq_true rfl) ?_
  intro p e s m args below meth cc C
  refine jj_go C 2 rfl ?_
  refine jj_if C rfl (fun z => ?_) (fun z => ?_)
  · have g := (nI_eq (a := b) (b := 33) (by omega) (by decide)).mp z
    refine jj_go C 1 rfl ?_
    refine jj_if C rfl (fun z2 => ?_) (fun z2 => ?_)
    · have g2 := (nI_eq (a := j) (b := 0) (by omega) (by decide)).mp z2
      refine jj_go C 1 rfl ?_
      exact jj_iret C rfl rfl rfl (Nat.le_of_ble_eq_true rfl) (Nat.le_of_ble_eq_true rfl) ⟨by rw [if_pos g, g2]; rfl, rfl⟩
    · have g2 : ¬ j = 0 := fun q => z2 (by rw [q]; rfl)
      refine jj_go C 2 rfl ?_
      exact jj_iret C rfl rfl rfl (Nat.le_of_ble_eq_true rfl) (Nat.le_of_ble_eq_true rfl) ⟨by rw [if_pos g, beq_eq_false_iff_ne.mpr g2]; rfl, rfl⟩
  · have g : ¬ b = 33 := fun q => z (by rw [q]; rfl)
    rw [if_neg g]
    refine jj_go C 2 rfl ?_
    refine jj_if C rfl (fun z2 => ?_) (fun z2 => ?_)
    · have g2 := (nI_eq (a := j) (b := 124) (by omega) (by decide)).mp z2
      refine jj_go C 2 rfl ?_
      refine jj_if C rfl (fun z3 => ?_) (fun z3 => ?_)
      · have g3 := (nI_eq (a := b) (b := 38) (by omega) (by decide)).mp z3
        refine jj_go C 2 rfl ?_
        exact jj_iret C rfl rfl rfl (Nat.le_of_ble_eq_true rfl) (Nat.le_of_ble_eq_true rfl) ⟨by rw [g2, g3]; rfl, rfl⟩
      · have g3 : ¬ b = 38 := fun q => z3 (by rw [q]; rfl)
        refine jj_go C 2 rfl ?_
        refine jj_if C rfl (fun z4 => ?_) (fun z4 => ?_)
        · have g4 := (nI_eq (a := e0) (b := 38) (by omega) (by decide)).mp z4
          refine jj_go C 2 rfl ?_
          exact jj_iret C rfl rfl rfl (Nat.le_of_ble_eq_true rfl) (Nat.le_of_ble_eq_true rfl) ⟨by rw [g2, g4]; simp [jb_I], rfl⟩
        · have g4 : ¬ e0 = 38 := fun q => z4 (by rw [q]; rfl)
          refine jj_go C 1 rfl ?_
          exact jj_iret C rfl rfl rfl (Nat.le_of_ble_eq_true rfl) (Nat.le_of_ble_eq_true rfl) ⟨by rw [beq_eq_false_iff_ne.mpr g3, beq_eq_false_iff_ne.mpr g4]; simp [jb_I], rfl⟩
    · have g2 : ¬ j = 124 := fun q => z2 (by rw [q]; rfl)
      refine jj_go C 1 rfl ?_
      exact jj_iret C rfl rfl rfl (Nat.le_of_ble_eq_true rfl) (Nat.le_of_ble_eq_true rfl) ⟨by rw [beq_eq_false_iff_ne.mpr g2]; rfl, rfl⟩
theorem kx_SB.lt {u : List Nat} (hs : kx_SB aC h sb bb mm u) (i : Nat) : u.getD i 0 < 128 := by
  obtain ⟨ml, f, -, -, htx, -⟩ := hs
  exact jr_lt (fun i hi => (htx i hi).2) i
theorem qf_lastBefore {n : Nat} {dv : Value} (ho : h qf = some (.inr (6, [.ref tx, .ref sb, .ref op, dv]))) (hs : kx_SB aC h sb bb mm o) (hn : n ≤ o.length) (hl : o.length ≤ 100) : jj_Ct l D aC base yn_QF_lastBefore yb_QF_lastBefore 2 (some .char) 4 0 0 [.ref qf, .int (nI n)] h (fun q h' => q = some (.int (nI (qd_b o n))) ∧ h' = h) := by
  obtain ⟨fs, hr⟩ := hs.recv
  refine jj_start (tb := tb_QF_lastBefore) (by decide) tg_QF_lastBefore (Nat.le_of_ble_eq_true rfl) ?_
  intro p e s m args below meth cc C
  refine jj_go C 1 rfl ?_
  cases n with
  | zero =>
    refine jj_if C rfl (fun _ => ?_) (fun z => absurd (by decide) z)
    refine jj_go C 1 rfl ?_
    exact jj_iret C rfl rfl rfl (Nat.le_of_ble_eq_true rfl) (Nat.le_of_ble_eq_true rfl) ⟨rfl, rfl⟩
  | succ n =>
    rw [qd_b_s]
    refine jj_if C rfl (fun z => absurd ((nI_leI (a := n + 1) (b := 0) (by omega) (by decide)).mp z) (by omega)) (fun _ => ?_)
    refine jj_go C 2 rfl ?_
    refine jj_getf C rfl fl_QF_12 ho rfl ?_
    refine jj_callV C rfl ml_QF_51 wd_138 hr rfl se_SB_SB_length (kt_SB_length hs) (rest := [.int (nI (n + 1))]) rfl rfl ⟨Nat.le_of_ble_eq_true rfl, Nat.le_of_ble_eq_true rfl⟩ (Nat.le_of_ble_eq_true rfl) (Nat.le_of_ble_eq_true rfl) (Nat.le_of_ble_eq_true rfl) ?_
    rintro q9 h9 ⟨rfl, hh9⟩
    rw [hh9]
    refine jj_if C rfl (fun z => absurd ((nI_ltI (a := o.length) (b := n + 1) (by omega) (by omega)).mp z) (by omega)) (fun _ => ?_)
    refine jj_go C 1 rfl ?_
    refine jj_getf C rfl fl_QF_12 ho rfl ?_
    refine jj_go C 3 rfl ?_
    refine jj_top (show nI (n + 1) - 1 = nI n from pk_sub (a := n + 1) (b := 1) (by omega)) ?_
    refine jj_callV C rfl ml_QF_74 wd_661 hr rfl se_SB_SB_charAt (kt_SB_charAt (i := n) hs (by omega)) (rest := []) rfl rfl ⟨Nat.le_of_ble_eq_true rfl, Nat.le_of_ble_eq_true rfl⟩ (Nat.le_of_ble_eq_true rfl) (Nat.le_of_ble_eq_true rfl) (Nat.le_of_ble_eq_true rfl) ?_
    rintro q9 h9 ⟨rfl, hh9⟩
    rw [hh9]
    refine jj_go C 1 rfl ?_
    exact jj_iret C rfl rfl (congrArg Value.int (ky_char _ (hs.lt n))) (Nat.le_of_ble_eq_true rfl) (Nat.le_of_ble_eq_true rfl) ⟨rfl, rfl⟩
theorem qf_jointFrom {n j : Nat} {x : List Nat} {dv : Value} (ho : h qf = some (.inr (6, [.ref tx, .ref sb, .ref op, dv]))) (hs : kx_SB aC h sb bb mm o) (hx : o.drop n = x) (hn : n ≤ o.length) (hl : o.length ≤ 100) (hb : qs_b x 0) (hj : qs_j x 0 0 = j) (hj128 : j < 128) : jj_Ct l D aC base yn_QF_jointFrom yb_QF_jointFrom 6 (some .char) 4 0 0 [.ref qf, .int (nI n)] h (fun q h' => q = some (.int (nI j)) ∧ h' = h) := by
  obtain ⟨fs, hr⟩ := hs.recv
  refine jj_start (tb := tb_QF_jointFrom) (by decide) tg_QF_jointFrom (Nat.le_of_ble_eq_true rfl) ?_
  intro p e s m args below meth cc C
  have loop : ∀ (x1 : List Nat) (i inr jt : Nat), o.drop i = x1 → i ≤ o.length → qs_b x1 inr → qs_j x1 inr jt = j → inr ≤ i → jt < 128 → jj_J p l e (jj_rm 4 0 0) s m args below meth cc D base 6 (MQ below (jj_Q D base (fun q h' => q = some (.int (nI j)) ∧ h' = h)) args s 0 0 (jj_A base)) 7 [(0, .ref qf), (1, .int (nI n)), (2, .int (nI jt)), (3, .int (nI inr)), (4, .int (nI i))] [] h 0 0 := by
    intro x1
    induction x1 with
    | nil =>
      intro i inr jt e1 hi hb1 hj1 hle hjt
      have hlen : o.length ≤ i := by
        have := congrArg List.length e1
        rw [List.length_drop, List.length_nil] at this
        omega
      have hj1 : jt = j := hj1
      subst hj1
      refine jj_go C 2 rfl ?_
      refine jj_getf C rfl fl_QF_12 ho rfl ?_
      refine jj_callV C rfl ml_QF_51 wd_138 hr rfl se_SB_SB_length (kt_SB_length hs) (rest := [.int (nI i)]) rfl rfl ⟨Nat.le_of_ble_eq_true rfl, Nat.le_of_ble_eq_true rfl⟩ (Nat.le_of_ble_eq_true rfl) (Nat.le_of_ble_eq_true rfl) (Nat.le_of_ble_eq_true rfl) ?_
      rintro q9 h9 ⟨rfl, hh9⟩
      rw [hh9]
      refine jj_if C rfl (fun _ => ?_) (fun z => absurd (nI_le hlen (by omega)) z)
      refine jj_go C 1 rfl ?_
      exact jj_iret C rfl rfl (congrArg Value.int (ky_char _ hjt)) (Nat.le_of_ble_eq_true rfl) (Nat.le_of_ble_eq_true rfl) ⟨rfl, rfl⟩
    | cons c x1 ih =>
      intro i inr jt e1 hi hb1 hj1 hle hjt
      obtain ⟨y1, y2, y3⟩ := qd_cons e1
      have hc := hs.lt i
      rw [y1] at hc
      rw [qs_b_s] at hb1
      rw [qs_j_s] at hj1
      have next : ∀ (inr' jt' : Nat), qs_b x1 inr' → qs_j x1 inr' jt' = j → inr' ≤ i + 1 → jt' < 128 → jj_J p l e (jj_rm 4 0 0) s m args below meth cc D base 6 (MQ below (jj_Q D base (fun q h' => q = some (.int (nI j)) ∧ h' = h)) args s 0 0 (jj_A base)) 81 [(0, .ref qf), (1, .int (nI n)), (2, .int (nI jt')), (3, .int (nI inr')), (4, .int (nI i)), (5, .int (nI c))] [] h 0 0 := by
        intro inr' jt' a1 a2 a3 a4
        refine jj_go C 2 rfl ?_
        refine jj_less (lc' := [(0, .ref qf), (1, .int (nI n)), (2, .int (nI jt')), (3, .int (nI inr')), (4, .int (nI i + 1))]) (fun q hq => List.mem_append_left [_] hq) (Nat.le_refl _) (Nat.le_refl _) ?_
        rw [nI_1]
        exact ih (i + 1) inr' jt' y2 y3 a1 a2 a3 a4
      refine jj_go C 2 rfl ?_
      refine jj_getf C rfl fl_QF_12 ho rfl ?_
      refine jj_callV C rfl ml_QF_51 wd_138 hr rfl se_SB_SB_length (kt_SB_length hs) (rest := [.int (nI i)]) rfl rfl ⟨Nat.le_of_ble_eq_true rfl, Nat.le_of_ble_eq_true rfl⟩ (Nat.le_of_ble_eq_true rfl) (Nat.le_of_ble_eq_true rfl) (Nat.le_of_ble_eq_true rfl) ?_
      rintro q9 h9 ⟨rfl, hh9⟩
      rw [hh9]
      refine jj_if C rfl (fun z => absurd z (nI_ge y3 (by omega))) (fun _ => ?_)
      refine jj_go C 1 rfl ?_
      refine jj_getf C rfl fl_QF_12 ho rfl ?_
      refine jj_go C 1 rfl ?_
      refine jj_callV C rfl ml_QF_74 wd_661 hr rfl se_SB_SB_charAt (kt_SB_charAt (i := i) hs y3) (rest := []) rfl rfl ⟨Nat.le_of_ble_eq_true rfl, Nat.le_of_ble_eq_true rfl⟩ (Nat.le_of_ble_eq_true rfl) (Nat.le_of_ble_eq_true rfl) (Nat.le_of_ble_eq_true rfl) ?_
      rintro q9 h9 ⟨rfl, hh9⟩
      rw [hh9]
      rw [y1]
      refine jj_go C 3 rfl ?_
      refine jj_if C rfl (fun z => ?_) (fun z => ?_)
      · have g := (nI_eq (a := c) (b := 40) (by omega) (by decide)).mp z
        rw [if_pos g] at hb1 hj1
        refine jj_go C 2 rfl ?_
        rw [nI_1]
        exact next (inr + 1) jt hb1 hj1 (by omega) hjt
      · have g : ¬ c = 40 := fun q => z (by rw [q]; rfl)
        rw [if_neg g] at hb1 hj1
        refine jj_go C 2 rfl ?_
        refine jj_if C rfl (fun z2 => ?_) (fun z2 => ?_)
        · have g2 := (nI_eq (a := c) (b := 41) (by omega) (by decide)).mp z2
          rw [if_pos g2] at hb1 hj1
          obtain ⟨k, rfl⟩ : ∃ k, inr = k + 1 := ⟨inr - 1, by have := hb1.1; omega⟩
          have ew : ∀ x : Int32, nI (k + 1) = x → x + (-1) = nI k := fun x q => by rw [← q]; exact nI_m1
          generalize nI (k + 1) = w at ew ⊢
          have ew := ew w rfl
          refine jj_go C 2 rfl ?_
          refine jj_eq (lc' := [(0, .ref qf), (1, .int (nI n)), (2, .int (nI jt)), (3, .int (nI k)), (4, .int (nI i)), (5, .int (nI c))]) rfl (by rw [← ew]; rfl) rfl rfl ?_
          exact next k jt hb1.2 hj1 (by omega) hjt
        · have g2 : ¬ c = 41 := fun q => z2 (by rw [q]; rfl)
          rw [if_neg g2] at hb1 hj1
          refine jj_go C 1 rfl ?_
          refine jj_if C rfl (fun z3 => ?_) (fun z3 => ?_)
          · have g3 := (nI_eq (a := inr) (b := 0) (by omega) (by decide)).mp z3
            refine jj_go C 2 rfl ?_
            refine jj_if C rfl (fun z4 => ?_) (fun z4 => ?_)
            · have g4 := (nI_eq (a := c) (b := 124) (by omega) (by decide)).mp z4
              rw [if_pos ⟨g3, Or.inl g4⟩] at hj1
              refine jj_go C 2 rfl ?_
              exact next inr c hb1 hj1 (by omega) hc
            · have g4 : ¬ c = 124 := fun q => z4 (by rw [q]; rfl)
              refine jj_go C 2 rfl ?_
              refine jj_if C rfl (fun z5 => ?_) (fun z5 => ?_)
              · have g5 := (nI_eq (a := c) (b := 38) (by omega) (by decide)).mp z5
                refine jj_go C 1 rfl ?_
                refine jj_if C rfl (fun z6 => ?_) (fun z6 => ?_)
                · have g6 := (nI_eq (a := jt) (b := 0) (by omega) (by decide)).mp z6
                  rw [if_pos ⟨g3, Or.inr ⟨g5, g6⟩⟩] at hj1
                  refine jj_go C 2 rfl ?_
                  exact next inr c hb1 hj1 (by omega) hc
                · have g6 : ¬ jt = 0 := fun q => z6 (by rw [q]; rfl)
                  rw [if_neg (by omega)] at hj1
                  exact next inr jt hb1 hj1 (by omega) hjt
              · have g5 : ¬ c = 38 := fun q => z5 (by rw [q]; rfl)
                rw [if_neg (by omega)] at hj1
                exact next inr jt hb1 hj1 (by omega) hjt
          · have g3 : ¬ inr = 0 := fun q => z3 (by rw [q]; rfl)
            rw [if_neg (by omega)] at hj1
            exact next inr jt hb1 hj1 (by omega) hjt
  refine jj_go C 6 rfl ?_
  exact loop x n 0 0 hx hn hb hj (Nat.zero_le _) (by decide)
end QFA
