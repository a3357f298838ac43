/-! The class's QueryReader: one, all, any -/
def qr_P (h0 : jjHp) (qr tx : Nat) (bv : Value) (t : List Nat) (p0 : Nat) (wr : Bool) (O : Option (List Nat × Nat)) (q : Option Value) (h' : jjHp) : Prop := ∃ p' wr' fl' v, q = some (.int v) ∧ h' = qr_w h0 qr tx bv t p' wr' fl' ∧ p0 ≤ p' ∧ p' ≤ t.length ∧ qr_T t O wr p' wr' v
def qr_C1 (l : Launch) (D : va_G) (aC : Nat → ClassId) (base : Nat) (h0 : jjHp) (qr tx : Nat) (bv : Value) (t : List Nat) (E : Nat → Option Int32) (n : Nat) : Prop := ∀ (p0 : Nat) (wr fl : Bool), p0 ≤ t.length → t.length < p0 + n → jj_Ct l D aC base yn_QR_one yb_QR_one 4 (some .int) (3 * n + 5) 0 0 [.ref qr] (qr_w h0 qr tx bv t p0 wr fl) (qr_P h0 qr tx bv t p0 wr (qx_on E t.length n (t.drop p0)))
section QRY
variable {l : Launch} {D : va_G} {aC : Nat → ClassId} {base : Nat} {h0 : jjHp} {qr tx txb : Nat} {bv : Value} {t : List Nat} {E : Nat → Option Int32} {p0 : Nat} {wr fl : Bool}
theorem qr_all {n : Nat} {O : Option (List Nat × Nat)} (hq : qr_ok aC h0 qr tx txb bv t E) (hone : qr_C1 l D aC base h0 qr tx bv t E n) (hp0 : p0 ≤ t.length) (hn : t.length < p0 + n) (hO : qx_al (qx_on E t.length n) t.length (t.drop p0) = O) : jj_Ct l D aC base yn_QR_all yb_QR_all 4 (some .int) (3 * n + 6) 0 0 [.ref qr] (qr_w h0 qr tx bv t p0 wr fl) (qr_P h0 qr tx bv t p0 wr O) := by
  have hlen := hq.2.2.1
  have hch := hq.1.lt
  refine jj_start (tb := tb_QR_all) (by decide) tg_QR_all (Nat.le_of_ble_eq_true rfl) ?_
  intro p e s m args below meth cc C
  have ho := qr_w_o (h0 := h0) (qr := qr) (tx := tx) (bv := bv) (t := t) (p := p0) (wr := wr) (fl := fl)
  have loop : ∀ (k p1 : Nat) (v v2 : Int32) (wr1 fl1 : Bool), v2 = nI (t.length - k) → k ≤ t.length → p0 ≤ p1 → p1 ≤ t.length → ((wr1 = true ∧ (wr = true ∨ O = none)) ∨ (wr = false ∧ wr1 = false ∧ ∃ a, v = nI a ∧ a ≤ 2 ∧ qx_ll (qx_on E t.length n) 38 1 k (t.drop p1) a = O)) → jj_J p l e (jj_rm (3 * n + 6) 0 0) s m args below meth cc D base 4 (MQ below (jj_Q D base (qr_P h0 qr tx bv t p0 wr O)) args s 0 0 (jj_A base)) 7 [(0, .ref qr), (1, .int v), (2, .int v2)] [] (qr_w h0 qr tx bv t p1 wr1 fl1) 0 0 := by
    intro k
    induction k with
    | zero =>
      intro p1 v v2 wr1 fl1 hv2 hk h1 h2 hI
      have ho1 := qr_w_o (h0 := h0) (qr := qr) (tx := tx) (bv := bv) (t := t) (p := p1) (wr := wr1) (fl := fl1)
      have hs1 : kx_ST aC (qr_w h0 qr tx bv t p1 wr1 fl1) tx txb t := hq.st _
      obtain ⟨fs, hr1⟩ := hs1.recv
      refine jj_go C 2 rfl ?_
      refine jj_getf C rfl fl_QR_22 ho1 rfl ?_
      refine jj_callV C rfl ml_QR_48 wd_364 hr1 rfl se_ST_ST_length (kt_ST_length hs1) (rest := [.int v2]) rfl rfl ⟨by show 1 + 1 ≤ 3 * n + 6; omega, by show 8 + (1 + 11) + 64 * (1) ≤ 64 * (3 * n + 6); omega⟩ (Nat.le_of_ble_eq_true rfl) (Nat.le_of_ble_eq_true rfl) (Nat.le_of_ble_eq_true rfl) ?_
      rintro q9 h9 ⟨rfl, hh9⟩
      rw [hh9]
      refine jj_if C rfl (fun _ => ?_) (fun z => absurd (by rw [hv2]; exact nI_le (by omega) (by omega)) z)
      refine jj_go C 1 rfl ?_
      refine jj_iret C rfl rfl rfl (Nat.le_of_ble_eq_true rfl) (Nat.le_of_ble_eq_true rfl) ⟨p1, wr1, fl1, v, rfl, rfl, h1, h2, ?_⟩
      rcases hI with hI | ⟨a, b, c, d1, d2, d3⟩
      · exact Or.inl hI
      · exact Or.inr ⟨a, b, c, d3.symm, d1, d2⟩
    | succ k ih =>
      intro p1 v v2 wr1 fl1 hv2 hk h1 h2 hI
      have hc1 := hch p1
      have ho1 := qr_w_o (h0 := h0) (qr := qr) (tx := tx) (bv := bv) (t := t) (p := p1) (wr := wr1) (fl := fl1)
      have hs1 : kx_ST aC (qr_w h0 qr tx bv t p1 wr1 fl1) tx txb t := hq.st _
      obtain ⟨fs, hr1⟩ := hs1.recv
      have hpl : ∀ a, qx_ll (qx_on E t.length n) 38 1 (k + 1) (t.drop p1) a = (if t.getD p1 0 = 38 then (match qx_on E t.length n (t.drop (qr_n t p1)) with | none => none | some r => qx_ll (qx_on E t.length n) 38 1 k r.1 (if a = 1 then r.2 else a)) else some (t.drop p1, a)) := by
        intro a
        rw [qr_n_t h2, ← qd_hd (t := t) (p := p1)]
        rfl
      have hnn := qr_n_le (t := t) (p := p1) h2
      refine jj_go C 2 rfl ?_
      refine jj_getf C rfl fl_QR_22 ho1 rfl ?_
      refine jj_callV C rfl ml_QR_48 wd_364 hr1 rfl se_ST_ST_length (kt_ST_length hs1) (rest := [.int v2]) rfl rfl ⟨by show 1 + 1 ≤ 3 * n + 6; omega, by show 8 + (1 + 11) + 64 * (1) ≤ 64 * (3 * n + 6); omega⟩ (Nat.le_of_ble_eq_true rfl) (Nat.le_of_ble_eq_true rfl) (Nat.le_of_ble_eq_true rfl) ?_
      rintro q9 h9 ⟨rfl, hh9⟩
      rw [hh9]
      refine jj_if C rfl (fun z => absurd z (by rw [hv2]; exact nI_ge (by omega) (by omega))) (fun _ => ?_)
      refine jj_go C 1 rfl ?_
      refine jj_getf C rfl fl_QR_40 ho1 rfl ?_
      refine jj_go C 1 rfl ?_
      refine jj_if C rfl (fun z => ?_) (fun z => ?_)
      rotate_left
      · have g : ¬ t.getD p1 0 = 38 := fun q => z (by rw [q]; rfl)
        refine jj_go C 1 rfl ?_
        refine jj_iret C rfl rfl rfl (Nat.le_of_ble_eq_true rfl) (Nat.le_of_ble_eq_true rfl) ⟨p1, wr1, fl1, v, rfl, rfl, h1, h2, ?_⟩
        rcases hI with hI | ⟨a, b, c, d1, d2, d3⟩
        · exact Or.inl hI
        · rw [hpl, if_neg g] at d3
          exact Or.inr ⟨a, b, c, d3.symm, d1, d2⟩
      have g := (nI_eq (a := t.getD p1 0) (b := 38) (by omega) (by decide)).mp z
      refine jj_go C 1 rfl ?_
      refine jj_callV C rfl ml_QR_51 wd_596 ho1 rfl se_QR_QR_step (qr_step hq h2) (rest := []) rfl rfl ⟨by show 4 + 1 ≤ 3 * n + 6; omega, by show 8 + (1 + 11) + 64 * (4) ≤ 64 * (3 * n + 6); omega⟩ (Nat.le_of_ble_eq_true rfl) (Nat.le_of_ble_eq_true rfl) (Nat.le_of_ble_eq_true rfl) ?_
      rintro q9 h9 ⟨rfl, hh9⟩
      rw [hh9]
      have ho2 := qr_w_o (h0 := h0) (qr := qr) (tx := tx) (bv := bv) (t := t) (p := qr_n t p1) (wr := wr1) (fl := fl1)
      refine jj_go C 1 rfl ?_
      refine jj_callV C rfl ml_QR_54 wd_592 ho2 rfl se_QR_QR_one (hone (qr_n t p1) wr1 fl1 hnn.2 (by omega)) (rest := []) rfl rfl ⟨by show 3 * n + 5 + 1 ≤ 3 * n + 6; omega, by show 8 + (4 + 11) + 64 * (3 * n + 5) ≤ 64 * (3 * n + 6); omega⟩ (Nat.le_of_ble_eq_true rfl) (Nat.le_of_ble_eq_true rfl) (Nat.le_of_ble_eq_true rfl) ?_
      rintro q9 h9 ⟨p2, wr2, fl2, w, rfl, rfl, c1, c2, hS⟩
      have next : ∀ v' : Int32, ((wr2 = true ∧ (wr = true ∨ O = none)) ∨ (wr = false ∧ wr2 = false ∧ ∃ a, v' = nI a ∧ a ≤ 2 ∧ qx_ll (qx_on E t.length n) 38 1 k (t.drop p2) a = O)) → jj_J p l e (jj_rm (3 * n + 6) 0 0) s m args below meth cc D base 4 (MQ below (jj_Q D base (qr_P h0 qr tx bv t p0 wr O)) args s 0 0 (jj_A base)) 46 [(0, .ref qr), (1, .int v), (2, .int v2), (3, .int w)] [.int v'] (qr_w h0 qr tx bv t p2 wr2 fl2) 0 0 := by
        intro v' hI'
        refine jj_go C 3 rfl ?_
        refine jj_less (lc' := [(0, .ref qr), (1, .int v'), (2, .int (v2 + 1))]) (fun q hq => List.mem_append_left [_] hq) (Nat.le_refl _) (Nat.le_refl _) ?_
        exact ih p2 v' (v2 + 1) wr2 fl2 (by rw [hv2, nI_1]; congr 1; omega) (by omega) (by omega) c2 hI'
      have hU : (wr2 = true ∧ (wr = true ∨ O = none)) ∨ (wr = false ∧ wr2 = false ∧ ∃ a b, v = nI a ∧ a ≤ 2 ∧ w = nI b ∧ b ≤ 2 ∧ qx_ll (qx_on E t.length n) 38 1 k (t.drop p2) (if a = 1 then b else a) = O) := by
        rcases hI with ⟨a, b⟩ | ⟨a, b, c, d1, d2, d3⟩
        · rcases hS with ⟨s1, -⟩ | ⟨s1, -, -⟩
          · exact Or.inl ⟨s1, b⟩
          · rw [a] at s1
            cases s1
        · rw [hpl, if_pos g] at d3
          rcases hS with ⟨s1, s2⟩ | ⟨-, s1, b9, s2, s3, s4⟩
          · rcases s2 with s2 | s2
            · rw [b] at s2
              cases s2
            · rw [s2] at d3
              exact Or.inl ⟨s1, Or.inr d3.symm⟩
          · rw [s2] at d3
            exact Or.inr ⟨a, s1, c, b9, d1, d2, s3, s4, d3⟩
      refine jj_go C 3 rfl ?_
      refine jj_if C rfl (fun z => ?_) (fun z => ?_)
      · refine jj_go C 2 rfl ?_
        refine next w ?_
        rcases hU with hU | ⟨a, b, a9, b9, d1, d2, d3, d4, d5⟩
        · exact Or.inl hU
        · rw [d1] at z
          have e1 := (nI_eq (a := a9) (b := 1) (by omega) (by decide)).mp z
          rw [if_pos e1] at d5
          exact Or.inr ⟨a, b, b9, d3, d4, d5⟩
      · refine jj_go C 1 rfl ?_
        refine next v ?_
        rcases hU with hU | ⟨a, b, a9, b9, d1, d2, d3, d4, d5⟩
        · exact Or.inl hU
        · have e1 : ¬ a9 = 1 := fun q => z (by rw [d1, q]; rfl)
          rw [if_neg e1] at d5
          exact Or.inr ⟨a, b, a9, d1, d2, d5⟩
  refine jj_go C 1 rfl ?_
  refine jj_callV C rfl ml_QR_54 wd_592 ho rfl se_QR_QR_one (hone p0 wr fl hp0 hn) (rest := []) rfl rfl ⟨by show 3 * n + 5 + 1 ≤ 3 * n + 6; omega, by show 8 + (4 + 11) + 64 * (3 * n + 5) ≤ 64 * (3 * n + 6); omega⟩ (Nat.le_of_ble_eq_true rfl) (Nat.le_of_ble_eq_true rfl) (Nat.le_of_ble_eq_true rfl) ?_
  rintro q9 h9 ⟨p1, wr1, fl1, v, rfl, rfl, c1, c2, hS⟩
  refine jj_go C 3 rfl ?_
  refine loop t.length p1 v 0 wr1 fl1 (by rw [Nat.sub_self]; exact nI_0.symm) (Nat.le_refl _) c1 c2 ?_
  unfold qx_al at hO
  rcases hS with ⟨s1, s2⟩ | ⟨s0, s1, a9, s2, s3, s4⟩
  · refine Or.inl ⟨s1, ?_⟩
    rcases s2 with s2 | s2
    · exact Or.inl s2
    · rw [s2] at hO
      exact Or.inr hO.symm
  · rw [s2] at hO
    exact Or.inr ⟨s0, s1, a9, s3, s4, hO⟩
theorem qr_any {n : Nat} {O : Option (List Nat × Nat)} (hq : qr_ok aC h0 qr tx txb bv t E) (hone : qr_C1 l D aC base h0 qr tx bv t E n) (hp0 : p0 ≤ t.length) (hn : t.length < p0 + n) (hO : qx_an (qx_on E t.length n) t.length (t.drop p0) = O) : jj_Ct l D aC base yn_QR_any yb_QR_any 4 (some .int) (3 * n + 7) 0 0 [.ref qr] (qr_w h0 qr tx bv t p0 wr fl) (qr_P h0 qr tx bv t p0 wr O) := by
  have hlen := hq.2.2.1
  have hch := hq.1.lt
  refine jj_start (tb := tb_QR_any) (by decide) tg_QR_any (Nat.le_of_ble_eq_true rfl) ?_
  intro p e s m args below meth cc C
  have ho := qr_w_o (h0 := h0) (qr := qr) (tx := tx) (bv := bv) (t := t) (p := p0) (wr := wr) (fl := fl)
  have loop : ∀ (k p1 : Nat) (v v2 : Int32) (wr1 fl1 : Bool), v2 = nI (t.length - k) → k ≤ t.length → p0 ≤ p1 → p1 ≤ t.length → ((wr1 = true ∧ (wr = true ∨ O = none)) ∨ (wr = false ∧ wr1 = false ∧ ∃ a, v = nI a ∧ a ≤ 2 ∧ qx_ll (qx_al (qx_on E t.length n) t.length) 124 0 k (t.drop p1) a = O)) → jj_J p l e (jj_rm (3 * n + 7) 0 0) s m args below meth cc D base 4 (MQ below (jj_Q D base (qr_P h0 qr tx bv t p0 wr O)) args s 0 0 (jj_A base)) 7 [(0, .ref qr), (1, .int v), (2, .int v2)] [] (qr_w h0 qr tx bv t p1 wr1 fl1) 0 0 := by
    intro k
    induction k with
    | zero =>
      intro p1 v v2 wr1 fl1 hv2 hk h1 h2 hI
      have ho1 := qr_w_o (h0 := h0) (qr := qr) (tx := tx) (bv := bv) (t := t) (p := p1) (wr := wr1) (fl := fl1)
      have hs1 : kx_ST aC (qr_w h0 qr tx bv t p1 wr1 fl1) tx txb t := hq.st _
      obtain ⟨fs, hr1⟩ := hs1.recv
      refine jj_go C 2 rfl ?_
      refine jj_getf C rfl fl_QR_22 ho1 rfl ?_
      refine jj_callV C rfl ml_QR_48 wd_364 hr1 rfl se_ST_ST_length (kt_ST_length hs1) (rest := [.int v2]) rfl rfl ⟨by show 1 + 1 ≤ 3 * n + 7; omega, by show 8 + (1 + 11) + 64 * (1) ≤ 64 * (3 * n + 7); omega⟩ (Nat.le_of_ble_eq_true rfl) (Nat.le_of_ble_eq_true rfl) (Nat.le_of_ble_eq_true rfl) ?_
      rintro q9 h9 ⟨rfl, hh9⟩
      rw [hh9]
      refine jj_if C rfl (fun _ => ?_) (fun z => absurd (by rw [hv2]; exact nI_le (by omega) (by omega)) z)
      refine jj_go C 1 rfl ?_
      refine jj_iret C rfl rfl rfl (Nat.le_of_ble_eq_true rfl) (Nat.le_of_ble_eq_true rfl) ⟨p1, wr1, fl1, v, rfl, rfl, h1, h2, ?_⟩
      rcases hI with hI | ⟨a, b, c, d1, d2, d3⟩
      · exact Or.inl hI
      · exact Or.inr ⟨a, b, c, d3.symm, d1, d2⟩
    | succ k ih =>
      intro p1 v v2 wr1 fl1 hv2 hk h1 h2 hI
      have hc1 := hch p1
      have ho1 := qr_w_o (h0 := h0) (qr := qr) (tx := tx) (bv := bv) (t := t) (p := p1) (wr := wr1) (fl := fl1)
      have hs1 : kx_ST aC (qr_w h0 qr tx bv t p1 wr1 fl1) tx txb t := hq.st _
      obtain ⟨fs, hr1⟩ := hs1.recv
      have hpl : ∀ a, qx_ll (qx_al (qx_on E t.length n) t.length) 124 0 (k + 1) (t.drop p1) a = (if t.getD p1 0 = 124 then (match qx_al (qx_on E t.length n) t.length (t.drop (qr_n t p1)) with | none => none | some r => qx_ll (qx_al (qx_on E t.length n) t.length) 124 0 k r.1 (if a = 0 then r.2 else a)) else some (t.drop p1, a)) := by
        intro a
        rw [qr_n_t h2, ← qd_hd (t := t) (p := p1)]
        rfl
      have hnn := qr_n_le (t := t) (p := p1) h2
      refine jj_go C 2 rfl ?_
      refine jj_getf C rfl fl_QR_22 ho1 rfl ?_
      refine jj_callV C rfl ml_QR_48 wd_364 hr1 rfl se_ST_ST_length (kt_ST_length hs1) (rest := [.int v2]) rfl rfl ⟨by show 1 + 1 ≤ 3 * n + 7; omega, by show 8 + (1 + 11) + 64 * (1) ≤ 64 * (3 * n + 7); omega⟩ (Nat.le_of_ble_eq_true rfl) (Nat.le_of_ble_eq_true rfl) (Nat.le_of_ble_eq_true rfl) ?_
      rintro q9 h9 ⟨rfl, hh9⟩
      rw [hh9]
      refine jj_if C rfl (fun z => absurd z (by rw [hv2]; exact nI_ge (by omega) (by omega))) (fun _ => ?_)
      refine jj_go C 1 rfl ?_
      refine jj_getf C rfl fl_QR_40 ho1 rfl ?_
      refine jj_go C 1 rfl ?_
      refine jj_if C rfl (fun z => ?_) (fun z => ?_)
      rotate_left
      · have g : ¬ t.getD p1 0 = 124 := fun q => z (by rw [q]; rfl)
        refine jj_go C 1 rfl ?_
        refine jj_iret C rfl rfl rfl (Nat.le_of_ble_eq_true rfl) (Nat.le_of_ble_eq_true rfl) ⟨p1, wr1, fl1, v, rfl, rfl, h1, h2, ?_⟩
        rcases hI with hI | ⟨a, b, c, d1, d2, d3⟩
        · exact Or.inl hI
        · rw [hpl, if_neg g] at d3
          exact Or.inr ⟨a, b, c, d3.symm, d1, d2⟩
      have g := (nI_eq (a := t.getD p1 0) (b := 124) (by omega) (by decide)).mp z
      refine jj_go C 1 rfl ?_
      refine jj_callV C rfl ml_QR_51 wd_596 ho1 rfl se_QR_QR_step (qr_step hq h2) (rest := []) rfl rfl ⟨by show 4 + 1 ≤ 3 * n + 7; omega, by show 8 + (1 + 11) + 64 * (4) ≤ 64 * (3 * n + 7); omega⟩ (Nat.le_of_ble_eq_true rfl) (Nat.le_of_ble_eq_true rfl) (Nat.le_of_ble_eq_true rfl) ?_
      rintro q9 h9 ⟨rfl, hh9⟩
      rw [hh9]
      have ho2 := qr_w_o (h0 := h0) (qr := qr) (tx := tx) (bv := bv) (t := t) (p := qr_n t p1) (wr := wr1) (fl := fl1)
      refine jj_go C 1 rfl ?_
      refine jj_callV C rfl ml_QR_44 wd_588 ho2 rfl se_QR_QR_all (qr_all (n := n) hq hone hnn.2 (by omega) rfl) (rest := []) rfl rfl ⟨by show 3 * n + 6 + 1 ≤ 3 * n + 7; omega, by show 8 + (4 + 11) + 64 * (3 * n + 6) ≤ 64 * (3 * n + 7); omega⟩ (Nat.le_of_ble_eq_true rfl) (Nat.le_of_ble_eq_true rfl) (Nat.le_of_ble_eq_true rfl) ?_
      rintro q9 h9 ⟨p2, wr2, fl2, w, rfl, rfl, c1, c2, hS⟩
      have next : ∀ v' : Int32, ((wr2 = true ∧ (wr = true ∨ O = none)) ∨ (wr = false ∧ wr2 = false ∧ ∃ a, v' = nI a ∧ a ≤ 2 ∧ qx_ll (qx_al (qx_on E t.length n) t.length) 124 0 k (t.drop p2) a = O)) → jj_J p l e (jj_rm (3 * n + 7) 0 0) s m args below meth cc D base 4 (MQ below (jj_Q D base (qr_P h0 qr tx bv t p0 wr O)) args s 0 0 (jj_A base)) 45 [(0, .ref qr), (1, .int v), (2, .int v2), (3, .int w)] [.int v'] (qr_w h0 qr tx bv t p2 wr2 fl2) 0 0 := by
        intro v' hI'
        refine jj_go C 3 rfl ?_
        refine jj_less (lc' := [(0, .ref qr), (1, .int v'), (2, .int (v2 + 1))]) (fun q hq => List.mem_append_left [_] hq) (Nat.le_refl _) (Nat.le_refl _) ?_
        exact ih p2 v' (v2 + 1) wr2 fl2 (by rw [hv2, nI_1]; congr 1; omega) (by omega) (by omega) c2 hI'
      have hU : (wr2 = true ∧ (wr = true ∨ O = none)) ∨ (wr = false ∧ wr2 = false ∧ ∃ a b, v = nI a ∧ a ≤ 2 ∧ w = nI b ∧ b ≤ 2 ∧ qx_ll (qx_al (qx_on E t.length n) t.length) 124 0 k (t.drop p2) (if a = 0 then b else a) = O) := by
        rcases hI with ⟨a, b⟩ | ⟨a, b, c, d1, d2, d3⟩
        · rcases hS with ⟨s1, -⟩ | ⟨s1, -, -⟩
          · exact Or.inl ⟨s1, b⟩
          · rw [a] at s1
            cases s1
        · rw [hpl, if_pos g] at d3
          rcases hS with ⟨s1, s2⟩ | ⟨-, s1, b9, s2, s3, s4⟩
          · rcases s2 with s2 | s2
            · rw [b] at s2
              cases s2
            · rw [s2] at d3
              exact Or.inl ⟨s1, Or.inr d3.symm⟩
          · rw [s2] at d3
            exact Or.inr ⟨a, s1, c, b9, d1, d2, s3, s4, d3⟩
      refine jj_go C 2 rfl ?_
      refine jj_if C rfl (fun z => ?_) (fun z => ?_)
      · refine jj_go C 2 rfl ?_
        refine next w ?_
        rcases hU with hU | ⟨a, b, a9, b9, d1, d2, d3, d4, d5⟩
        · exact Or.inl hU
        · rw [d1] at z
          have e1 := (nI_eq (a := a9) (b := 0) (by omega) (by decide)).mp z
          rw [if_pos e1] at d5
          exact Or.inr ⟨a, b, b9, d3, d4, d5⟩
      · refine jj_go C 1 rfl ?_
        refine next v ?_
        rcases hU with hU | ⟨a, b, a9, b9, d1, d2, d3, d4, d5⟩
        · exact Or.inl hU
        · have e1 : ¬ a9 = 0 := fun q => z (by rw [d1, q]; rfl)
          rw [if_neg e1] at d5
          exact Or.inr ⟨a, b, a9, d1, d2, d5⟩
  refine jj_go C 1 rfl ?_
  refine jj_callV C rfl ml_QR_44 wd_588 ho rfl se_QR_QR_all (qr_all (n := n) hq hone hp0 hn rfl) (rest := []) rfl rfl ⟨by show 3 * n + 6 + 1 ≤ 3 * n + 7; omega, by show 8 + (4 + 11) + 64 * (3 * n + 6) ≤ 64 * (3 * n + 7); omega⟩ (Nat.le_of_ble_eq_true rfl) (Nat.le_of_ble_eq_true rfl) (Nat.le_of_ble_eq_true rfl) ?_
  rintro q9 h9 ⟨p1, wr1, fl1, v, rfl, rfl, c1, c2, hS⟩
  refine jj_go C 3 rfl ?_
  refine loop t.length p1 v 0 wr1 fl1 (by rw [Nat.sub_self]; exact nI_0.symm) (Nat.le_refl _) c1 c2 ?_
  unfold qx_an at hO
  rcases hS with ⟨s1, s2⟩ | ⟨s0, s1, a9, s2, s3, s4⟩
  · refine Or.inl ⟨s1, ?_⟩
    rcases s2 with s2 | s2
    · exact Or.inl s2
    · rw [s2] at hO
      exact Or.inr hO.symm
  · rw [s2] at hO
    exact Or.inr ⟨s0, s1, a9, s3, s4, hO⟩
theorem nI_ng {a : Nat} (h : a ≤ 2) : (if nI a = 2 then (2 : Int32) else 1 - nI a) = nI (qx_ng a) := by
  rcases (by omega : a = 0 ∨ a = 1 ∨ a = 2) with rfl | rfl | rfl <;> decide
theorem qr_one {n : Nat} {O : Option (List Nat × Nat)} (hq : qr_ok aC h0 qr tx txb bv t E) (hone : qr_C1 l D aC base h0 qr tx bv t E n) (hp0 : p0 ≤ t.length) (hn : t.length < p0 + (n + 1)) (hO : qx_on E t.length (n + 1) (t.drop p0) = O) : jj_Ct l D aC base yn_QR_one yb_QR_one 4 (some .int) (3 * n + 8) 0 0 [.ref qr] (qr_w h0 qr tx bv t p0 wr fl) (qr_P h0 qr tx bv t p0 wr O) := by
  have hlen := hq.2.2.1
  have hch := hq.1.lt
  have hc := hch p0
  rw [qx_on_s, qd_hd] at hO
  refine jj_start (tb := tb_QR_one) (by decide) tg_QR_one (Nat.le_of_ble_eq_true rfl) ?_
  intro p e s m args below meth cc C
  have ho := qr_w_o (h0 := h0) (qr := qr) (tx := tx) (bv := bv) (t := t) (p := p0) (wr := wr) (fl := fl)
  have hnn := qr_n_le (t := t) (p := p0) hp0
  have hstep : t.getD p0 0 ≠ 0 → qr_n t p0 = p0 + 1 := by
    intro hne
    unfold qr_n
    rw [if_pos]
    apply Nat.not_le.mp
    intro hge
    exact hne (px_getD_ge hge)
  refine jj_go C 1 rfl ?_
  refine jj_getf C rfl fl_QR_40 ho rfl ?_
  refine jj_go C 1 rfl ?_
  refine jj_if C rfl (fun z => ?_) (fun z => ?_)
  · -- !
    have g := (nI_eq (a := t.getD p0 0) (b := 33) (by omega) (by decide)).mp z
    have hs := hstep (by omega)
    rw [if_pos g, ← qr_n_t hp0] at hO
    refine jj_go C 1 rfl ?_
    refine jj_callV C rfl ml_QR_51 wd_596 ho rfl se_QR_QR_step (qr_step hq hp0) (rest := []) rfl rfl ⟨by show 4 + 1 ≤ 3 * n + 8; omega, by show 8 + (1 + 11) + 64 * (4) ≤ 64 * (3 * n + 8); omega⟩ (Nat.le_of_ble_eq_true rfl) (Nat.le_of_ble_eq_true rfl) (Nat.le_of_ble_eq_true rfl) ?_
    rintro q9 h9 ⟨rfl, hh9⟩
    rw [hh9]
    have ho2 := qr_w_o (h0 := h0) (qr := qr) (tx := tx) (bv := bv) (t := t) (p := qr_n t p0) (wr := wr) (fl := fl)
    refine jj_go C 1 rfl ?_
    refine jj_callV C rfl ml_QR_54 wd_592 ho2 rfl se_QR_QR_one (hone (qr_n t p0) wr fl hnn.2 (by omega)) (rest := []) rfl rfl ⟨by show 3 * n + 5 + 1 ≤ 3 * n + 8; omega, by show 8 + (4 + 11) + 64 * (3 * n + 5) ≤ 64 * (3 * n + 8); omega⟩ (Nat.le_of_ble_eq_true rfl) (Nat.le_of_ble_eq_true rfl) (Nat.le_of_ble_eq_true rfl) ?_
    rintro q9 h9 ⟨p2, wr2, fl2, w, rfl, rfl, c1, c2, hS⟩
    have fin : ∀ v : Int32, (if w = 2 then (2 : Int32) else 1 - w) = v → jj_J p l e (jj_rm (3 * n + 8) 0 0) s m args below meth cc D base 4 (MQ below (jj_Q D base (qr_P h0 qr tx bv t p0 wr O)) args s 0 0 (jj_A base)) 30 [(0, .ref qr), (1, .int w)] [.int v] (qr_w h0 qr tx bv t p2 wr2 fl2) 0 0 := by
      intro v hv
      refine jj_iret C rfl rfl rfl (Nat.le_of_ble_eq_true rfl) (Nat.le_of_ble_eq_true rfl) ⟨p2, wr2, fl2, v, rfl, rfl, by omega, c2, ?_⟩
      rcases hS with ⟨s1, s2⟩ | ⟨s0, s1, a9, s2, s3, s4⟩
      · refine Or.inl ⟨s1, ?_⟩
        rcases s2 with s2 | s2
        · exact Or.inl s2
        · rw [s2] at hO
          exact Or.inr hO.symm
      · rw [s2] at hO
        refine Or.inr ⟨s0, s1, qx_ng a9, hO.symm, ?_, ?_⟩
        · rw [← hv, s3, nI_ng s4]
        · unfold qx_ng
          split <;> omega
    refine jj_go C 3 rfl ?_
    refine jj_if C rfl (fun z => ?_) (fun z => ?_)
    · refine jj_go C 2 rfl ?_
      exact fin 2 (if_pos z)
    · refine jj_go C 3 rfl ?_
      exact fin (1 - w) (if_neg z)
  · have g : ¬ t.getD p0 0 = 33 := fun q => z (by rw [q]; rfl)
    rw [if_neg g] at hO
    refine jj_go C 1 rfl ?_
    refine jj_getf C rfl fl_QR_40 ho rfl ?_
    refine jj_go C 1 rfl ?_
    refine jj_if C rfl (fun z => ?_) (fun z => ?_)
    · -- (
      have g := (nI_eq (a := t.getD p0 0) (b := 40) (by omega) (by decide)).mp z
      have hs := hstep (by omega)
      rw [if_pos g, ← qr_n_t hp0] at hO
      refine jj_go C 1 rfl ?_
      refine jj_callV C rfl ml_QR_51 wd_596 ho rfl se_QR_QR_step (qr_step hq hp0) (rest := []) rfl rfl ⟨by show 4 + 1 ≤ 3 * n + 8; omega, by show 8 + (1 + 11) + 64 * (4) ≤ 64 * (3 * n + 8); omega⟩ (Nat.le_of_ble_eq_true rfl) (Nat.le_of_ble_eq_true rfl) (Nat.le_of_ble_eq_true rfl) ?_
      rintro q9 h9 ⟨rfl, hh9⟩
      rw [hh9]
      have ho2 := qr_w_o (h0 := h0) (qr := qr) (tx := tx) (bv := bv) (t := t) (p := qr_n t p0) (wr := wr) (fl := fl)
      refine jj_go C 1 rfl ?_
      refine jj_callV C rfl ml_QR_57 wd_583 ho2 rfl se_QR_QR_any (qr_any (n := n) hq hone hnn.2 (by omega) rfl) (rest := []) rfl rfl ⟨by show 3 * n + 7 + 1 ≤ 3 * n + 8; omega, by show 8 + (4 + 11) + 64 * (3 * n + 7) ≤ 64 * (3 * n + 8); omega⟩ (Nat.le_of_ble_eq_true rfl) (Nat.le_of_ble_eq_true rfl) (Nat.le_of_ble_eq_true rfl) ?_
      rintro q9 h9 ⟨p2, wr2, fl2, w, rfl, rfl, c1, c2, hS⟩
      have ho3 := qr_w_o (h0 := h0) (qr := qr) (tx := tx) (bv := bv) (t := t) (p := p2) (wr := wr2) (fl := fl2)
      have hc2 := hch p2
      have hn2 := qr_n_le (t := t) (p := p2) c2
      have fin : ∀ wr3 : Bool, wr3 = (wr2 || !(t.getD p2 0 == 41)) → jj_J p l e (jj_rm (3 * n + 8) 0 0) s m args below meth cc D base 4 (MQ below (jj_Q D base (qr_P h0 qr tx bv t p0 wr O)) args s 0 0 (jj_A base)) 71 [(0, .ref qr), (1, .int w)] [.int (jb_I wr3), .ref qr] (qr_w h0 qr tx bv t p2 wr2 fl2) 0 0 := by
        intro wr3 hw3
        refine jj_putf C rfl fl_QR_15 ho3 jb_nar jb_fit (Nat.le_of_ble_eq_true rfl) ?_
        refine jj_eq (h' := qr_w h0 qr tx bv t p2 wr3 fl2) rfl rfl rfl (by unfold qr_w; rw [jj_up_up]; rfl) ?_
        have ho4 := qr_w_o (h0 := h0) (qr := qr) (tx := tx) (bv := bv) (t := t) (p := p2) (wr := wr3) (fl := fl2)
        refine jj_go C 1 rfl ?_
        refine jj_callV C rfl ml_QR_51 wd_596 ho4 rfl se_QR_QR_step (qr_step hq c2) (rest := []) rfl rfl ⟨by show 4 + 1 ≤ 3 * n + 8; omega, by show 8 + (1 + 11) + 64 * (4) ≤ 64 * (3 * n + 8); omega⟩ (Nat.le_of_ble_eq_true rfl) (Nat.le_of_ble_eq_true rfl) (Nat.le_of_ble_eq_true rfl) ?_
        rintro q9 h9 ⟨rfl, hh9⟩
        rw [hh9]
        refine jj_go C 1 rfl ?_
        refine jj_iret C rfl rfl rfl (Nat.le_of_ble_eq_true rfl) (Nat.le_of_ble_eq_true rfl) ⟨qr_n t p2, wr3, fl2, w, rfl, rfl, by omega, hn2.2, ?_⟩
        rcases hS with ⟨s1, s2⟩ | ⟨s0, s1, a9, s2, s3, s4⟩
        · refine Or.inl ⟨by rw [hw3, s1]; rfl, ?_⟩
          rcases s2 with s2 | s2
          · exact Or.inl s2
          · rw [s2] at hO
            exact Or.inr hO.symm
        · rw [s2] at hO
          have hO : (if (t.drop p2).headD 0 = 41 then some ((t.drop p2).tail, a9) else none) = O := hO
          rw [qd_hd, ← qr_n_t c2] at hO
          by_cases h41 : t.getD p2 0 = 41
          · rw [if_pos h41] at hO
            exact Or.inr ⟨s0, by rw [hw3, s1, h41]; rfl, a9, hO.symm, s3, s4⟩
          · rw [if_neg h41] at hO
            exact Or.inl ⟨by rw [hw3, beq_eq_false_iff_ne.mpr h41]; simp, Or.inr hO.symm⟩
      refine jj_go C 3 rfl ?_
      refine jj_getf C rfl fl_QR_15 ho3 rfl ?_
      cases hw2 : wr2 with
      | true =>
        rw [hw2] at fin
        refine jj_if C rfl (fun z => absurd z (by decide)) (fun _ => ?_)
        refine jj_go C 2 rfl ?_
        exact fin true rfl
      | false =>
        rw [hw2] at fin ho3
        refine jj_if C rfl (fun _ => ?_) (fun z => absurd rfl z)
        refine jj_go C 1 rfl ?_
        refine jj_getf C rfl fl_QR_40 ho3 rfl ?_
        refine jj_go C 1 rfl ?_
        refine jj_if C rfl (fun z => ?_) (fun z => ?_)
        · have g := (nI_eq (a := t.getD p2 0) (b := 41) (by omega) (by decide)).mp z
          refine jj_go C 1 rfl ?_
          exact fin false (by rw [g]; rfl)
        · have g : ¬ t.getD p2 0 = 41 := fun q => z (by rw [q]; rfl)
          refine jj_go C 2 rfl ?_
          exact fin true (by rw [beq_eq_false_iff_ne.mpr g]; rfl)
    · -- a comparison
      have g2 : ¬ t.getD p0 0 = 40 := fun q => z (by rw [q]; rfl)
      rw [if_neg g2] at hO
      unfold qx_co at hO
      refine jj_go C 2 rfl ?_
      refine jj_putf C rfl fl_QR_19 ho rfl rfl (Nat.le_of_ble_eq_true rfl) ?_
      refine jj_eq (h' := qr_w h0 qr tx bv t p0 wr false) rfl rfl rfl (by unfold qr_w; rw [jj_up_up]; rfl) ?_
      have ho1 := qr_w_o (h0 := h0) (qr := qr) (tx := tx) (bv := bv) (t := t) (p := p0) (wr := wr) (fl := false)
      refine jj_go C 1 rfl ?_
      refine jj_callV C rfl ml_QR_60 wd_602 ho1 rfl se_QR_QR_sum (qr_sum hq hp0 rfl) (rest := []) rfl rfl ⟨by show 7 + 1 ≤ 3 * n + 8; omega, by show 8 + (5 + 11) + 64 * (7) ≤ 64 * (3 * n + 8); omega⟩ (Nat.le_of_ble_eq_true rfl) (Nat.le_of_ble_eq_true rfl) (Nat.le_of_ble_eq_true rfl) ?_
      rintro q9 h9 ⟨p1, wr1, fl1, x, rfl, rfl, c1, c2, hS1⟩
      have ho2 := qr_w_o (h0 := h0) (qr := qr) (tx := tx) (bv := bv) (t := t) (p := p1) (wr := wr1) (fl := fl1)
      have hc1 := hch p1
      have hn1 := qr_n_le (t := t) (p := p1) c2
      have fin : ∀ wr2 : Bool, wr2 = (wr1 || !pc_rl (t.getD p1 0)) → jj_J p l e (jj_rm (3 * n + 8) 0 0) s m args below meth cc D base 4 (MQ below (jj_Q D base (qr_P h0 qr tx bv t p0 wr O)) args s 0 0 (jj_A base)) 115 [(0, .ref qr), (1, .int x), (2, .int (nI (t.getD p1 0)))] [.int (jb_I wr2), .ref qr] (qr_w h0 qr tx bv t p1 wr1 fl1) 0 0 := by
        intro wr2 hw2
        refine jj_putf C rfl fl_QR_15 ho2 jb_nar jb_fit (Nat.le_of_ble_eq_true rfl) ?_
        refine jj_eq (h' := qr_w h0 qr tx bv t p1 wr2 fl1) rfl rfl rfl (by unfold qr_w; rw [jj_up_up]; rfl) ?_
        have ho4 := qr_w_o (h0 := h0) (qr := qr) (tx := tx) (bv := bv) (t := t) (p := p1) (wr := wr2) (fl := fl1)
        refine jj_go C 1 rfl ?_
        refine jj_callV C rfl ml_QR_51 wd_596 ho4 rfl se_QR_QR_step (qr_step hq c2) (rest := []) rfl rfl ⟨by show 4 + 1 ≤ 3 * n + 8; omega, by show 8 + (1 + 11) + 64 * (4) ≤ 64 * (3 * n + 8); omega⟩ (Nat.le_of_ble_eq_true rfl) (Nat.le_of_ble_eq_true rfl) (Nat.le_of_ble_eq_true rfl) ?_
        rintro q9 h9 ⟨rfl, hh9⟩
        rw [hh9]
        have ho5 := qr_w_o (h0 := h0) (qr := qr) (tx := tx) (bv := bv) (t := t) (p := qr_n t p1) (wr := wr2) (fl := fl1)
        refine jj_go C 1 rfl ?_
        refine jj_callV C rfl ml_QR_60 wd_602 ho5 rfl se_QR_QR_sum (qr_sum hq hn1.2 rfl) (rest := []) rfl rfl ⟨by show 7 + 1 ≤ 3 * n + 8; omega, by show 8 + (5 + 11) + 64 * (7) ≤ 64 * (3 * n + 8); omega⟩ (Nat.le_of_ble_eq_true rfl) (Nat.le_of_ble_eq_true rfl) (Nat.le_of_ble_eq_true rfl) ?_
        rintro q9 h9 ⟨p3, wr3, fl3, x3, rfl, rfl, d1, d2, hS3⟩
        have ho6 := qr_w_o (h0 := h0) (qr := qr) (tx := tx) (bv := bv) (t := t) (p := p3) (wr := wr3) (fl := fl3)
        have res : ∀ v : Int32, v = nI (if fl3 = true then 2 else if qx_cm x (t.getD p1 0) x3 = true then 1 else 0) → qr_P h0 qr tx bv t p0 wr O (some (.int v)) (qr_w h0 qr tx bv t p3 wr3 fl3) := by
          intro v hv
          refine ⟨p3, wr3, fl3, v, rfl, rfl, by omega, d2, ?_⟩
          rcases hS1 with ⟨s1, s2⟩ | ⟨s0, s1, s2⟩
          · have w2 : wr2 = true := by rw [hw2, s1]; rfl
            rcases hS3 with ⟨t1, t2⟩ | ⟨t0, t1, t2⟩
            · refine Or.inl ⟨t1, ?_⟩
              rcases s2 with s2 | s2
              · exact Or.inl s2
              · rw [s2] at hO
                exact Or.inr hO.symm
            · rw [w2] at t0
              cases t0
          · rw [s2] at hO
            have hO : (if pc_rl ((t.drop p1).headD 0) = true then (match qx_su E t.length (t.drop p1).tail fl1 with | none => none | some w => some (w.1, if w.2.2 = true then 2 else if qx_cm x ((t.drop p1).headD 0) w.2.1 = true then 1 else 0)) else none) = O := hO
            rw [qd_hd, ← qr_n_t c2] at hO
            cases hrl : pc_rl (t.getD p1 0) with
            | false =>
              rw [hrl, if_neg (by decide)] at hO
              have w2 : wr2 = true := by rw [hw2, hrl]; simp
              rcases hS3 with ⟨t1, t2⟩ | ⟨t0, t1, t2⟩
              · exact Or.inl ⟨t1, Or.inr hO.symm⟩
              · rw [w2] at t0
                cases t0
            | true =>
              rw [hrl, if_pos rfl] at hO
              have w2 : wr2 = false := by rw [hw2, hrl, s1]; rfl
              rcases hS3 with ⟨t1, t2⟩ | ⟨t0, t1, t2⟩
              · rcases t2 with t2 | t2
                · rw [w2] at t2
                  cases t2
                · rw [t2] at hO
                  exact Or.inl ⟨t1, Or.inr hO.symm⟩
              · rw [t2] at hO
                refine Or.inr ⟨s0, t1, _, hO.symm, hv, ?_⟩
                show (if fl3 = true then 2 else if qx_cm x (t.getD p1 0) x3 = true then 1 else 0) ≤ 2
                split
                · exact Nat.le_refl _
                · split <;> decide
        refine jj_go C 2 rfl ?_
        refine jj_getf C rfl fl_QR_19 ho6 rfl ?_
        cases hf3 : fl3 with
        | true =>
          rw [hf3] at res
          refine jj_if C rfl (fun z => absurd z (by decide)) (fun _ => ?_)
          refine jj_go C 2 rfl ?_
          exact jj_iret C rfl rfl rfl (Nat.le_of_ble_eq_true rfl) (Nat.le_of_ble_eq_true rfl) (res 2 rfl)
        | false =>
          rw [hf3] at res
          refine jj_if C rfl (fun _ => ?_) (fun z => absurd rfl z)
          refine jj_go C 3 rfl ?_
          refine jj_callS C rfl ml_QR_67 wd_616 (qr_compared (c := t.getD p1 0) (x := x) (z0 := x3) hc1) (rest := []) rfl rfl ⟨by show 0 + 1 ≤ 3 * n + 8; omega, by show 8 + (4 + 11) + 64 * (0) ≤ 64 * (3 * n + 8); omega⟩ (Nat.le_of_ble_eq_true rfl) (Nat.le_of_ble_eq_true rfl) (Nat.le_of_ble_eq_true rfl) ?_
          rintro q9 h9 ⟨rfl, hh9⟩
          rw [hh9]
          refine jj_iret C rfl rfl rfl (Nat.le_of_ble_eq_true rfl) (Nat.le_of_ble_eq_true rfl) (res _ ?_)
          rw [if_neg (by decide)]
          cases qx_cm x (t.getD p1 0) x3 <;> rfl
      refine jj_go C 2 rfl ?_
      refine jj_getf C rfl fl_QR_40 ho2 rfl ?_
      refine jj_go C 3 rfl ?_
      refine jj_getf C rfl fl_QR_15 ho2 rfl ?_
      cases hw1 : wr1 with
      | true =>
        rw [hw1] at fin
        refine jj_if C rfl (fun z => absurd z (by decide)) (fun _ => ?_)
        refine jj_go C 2 rfl ?_
        exact fin true rfl
      | false =>
        rw [hw1] at fin
        refine jj_if C rfl (fun _ => ?_) (fun z => absurd rfl z)
        refine jj_go C 1 rfl ?_
        refine jj_callS C rfl ml_QR_63 wd_613 (qr_isRelation (c := t.getD p1 0) hc1) (rest := [.ref qr]) rfl rfl ⟨by show 0 + 1 ≤ 3 * n + 8; omega, by show 8 + (1 + 11) + 64 * (0) ≤ 64 * (3 * n + 8); omega⟩ (Nat.le_of_ble_eq_true rfl) (Nat.le_of_ble_eq_true rfl) (Nat.le_of_ble_eq_true rfl) ?_
        rintro q9 h9 ⟨rfl, hh9⟩
        rw [hh9]
        cases hrl : pc_rl (t.getD p1 0) with
        | true =>
          rw [hrl] at fin
          refine jj_if C rfl (fun z => absurd z (by decide)) (fun _ => ?_)
          refine jj_go C 1 rfl ?_
          exact fin false rfl
        | false =>
          rw [hrl] at fin
          refine jj_if C rfl (fun _ => ?_) (fun z => absurd rfl z)
          refine jj_go C 2 rfl ?_
          exact fin true rfl
theorem qr_one_all (hq : qr_ok aC h0 qr tx txb bv t E) : ∀ n, qr_C1 l D aC base h0 qr tx bv t E n
  | 0 => fun p0 wr fl h1 h2 => absurd h2 (by omega)
  | n + 1 => fun p0 wr fl h1 h2 => qr_one (n := n) hq (qr_one_all hq n) h1 h2 rfl
end QRY
