/-! The class's QueryReader: product, sum, isRelation, compared -/
section QRX
variable {l : Launch} {D : va_G} {aC : Nat → ClassId} {base : Nat} {h0 : jjHp} {qr tx txb : Nat} {bv : Value} {t : List Nat} {E : Nat → Option Int32} {p0 : Nat} {wr fl : Bool}
theorem qr_product {O : Option (List Nat × Int32 × Bool)} (hq : qr_ok aC h0 qr tx txb bv t E) (hp0 : p0 ≤ t.length) (hO : qx_pr E t.length (t.drop p0) fl = O) : jj_Ct l D aC base yn_QR_product yb_QR_product 5 (some .int) 6 0 0 [.ref qr] (qr_w h0 qr tx bv t p0 wr fl) (fun q h' => ∃ p' wr' fl' v, q = some (.int v) ∧ h' = qr_w h0 qr tx bv t p' wr' fl' ∧ p0 ≤ p' ∧ p' ≤ t.length ∧ qr_S t O wr p' wr' fl' v) := by
  have hlen := hq.2.2.1
  have hch := hq.1.lt
  refine jj_start (tb := tb_QR_product) (by decide) tg_QR_product (Nat.le_of_ble_eq_true rfl) ?_
  intro p e s m args below meth cc C
  have ho := qr_w_o (h0 := h0) (qr := qr) (tx := tx) (bv := bv) (t := t) (p := p0) (wr := wr) (fl := fl)
  have loop : ∀ (k p1 : Nat) (v v2 : Int32) (wr1 fl1 : Bool), v2 = nI (t.length - k) → k ≤ t.length → p0 ≤ p1 → p1 ≤ t.length → ((wr1 = true ∧ (wr = true ∨ O = none)) ∨ (wr = false ∧ wr1 = false ∧ qx_pl E k (t.drop p1) v fl1 = O)) → jj_J p l e (jj_rm 6 0 0) s m args below meth cc D base 5 (MQ below (jj_Q D base (fun q h' => ∃ p' wr' fl' v, q = some (.int v) ∧ h' = qr_w h0 qr tx bv t p' wr' fl' ∧ p0 ≤ p' ∧ p' ≤ t.length ∧ qr_S t O wr p' wr' fl' v)) args s 0 0 (jj_A base)) 7 [(0, .ref qr), (1, .int v), (2, .int v2)] [] (qr_w h0 qr tx bv t p1 wr1 fl1) 0 0 := by
    intro k
    induction k with
    | zero =>
      intro p1 v v2 wr1 fl1 hv2 hk h1 h2 hI
      have ho1 := qr_w_o (h0 := h0) (qr := qr) (tx := tx) (bv := bv) (t := t) (p := p1) (wr := wr1) (fl := fl1)
      have hs1 : kx_ST aC (qr_w h0 qr tx bv t p1 wr1 fl1) tx txb t := hq.st _
      obtain ⟨fs, hr1⟩ := hs1.recv
      refine jj_go C 2 rfl ?_
      refine jj_getf C rfl fl_QR_22 ho1 rfl ?_
      refine jj_callV C rfl ml_QR_48 wd_364 hr1 rfl se_ST_ST_length (kt_ST_length hs1) (rest := [.int v2]) rfl rfl ⟨Nat.le_of_ble_eq_true rfl, Nat.le_of_ble_eq_true rfl⟩ (Nat.le_of_ble_eq_true rfl) (Nat.le_of_ble_eq_true rfl) (Nat.le_of_ble_eq_true rfl) ?_
      rintro q9 h9 ⟨rfl, hh9⟩
      rw [hh9]
      refine jj_if C rfl (fun _ => ?_) (fun z => absurd (by rw [hv2]; exact nI_le (by omega) (by omega)) z)
      refine jj_go C 1 rfl ?_
      refine jj_iret C rfl rfl rfl (Nat.le_of_ble_eq_true rfl) (Nat.le_of_ble_eq_true rfl) ⟨p1, wr1, fl1, v, rfl, rfl, h1, h2, ?_⟩
      rcases hI with hI | ⟨a, b, c⟩
      · exact Or.inl hI
      · exact Or.inr ⟨a, b, c.symm⟩
    | succ k ih =>
      intro p1 v v2 wr1 fl1 hv2 hk h1 h2 hI
      have hc1 := hch p1
      have ho1 := qr_w_o (h0 := h0) (qr := qr) (tx := tx) (bv := bv) (t := t) (p := p1) (wr := wr1) (fl := fl1)
      have hs1 : kx_ST aC (qr_w h0 qr tx bv t p1 wr1 fl1) tx txb t := hq.st _
      obtain ⟨fs, hr1⟩ := hs1.recv
      have hpl : qx_pl E (k + 1) (t.drop p1) v fl1 = (if t.getD p1 0 = 42 ∨ t.getD p1 0 = 47 then (match qx_un E (t.drop (qr_n t p1)) with | none => none | some r => if t.getD p1 0 = 42 then qx_pl E k r.1 (v * r.2.1) (fl1 || r.2.2) else if r.2.1 = 0 then qx_pl E k r.1 v true else qx_pl E k r.1 (v / r.2.1) (fl1 || r.2.2)) else some (t.drop p1, v, fl1)) := by
        rw [qr_n_t h2, ← qd_hd (t := t) (p := p1)]
        rfl
      rw [hpl] at hI
      have stop : ¬ (t.getD p1 0 = 42 ∨ t.getD p1 0 = 47) → jj_J p l e (jj_rm 6 0 0) s m args below meth cc D base 5 (MQ below (jj_Q D base (fun q h' => ∃ p' wr' fl' v, q = some (.int v) ∧ h' = qr_w h0 qr tx bv t p' wr' fl' ∧ p0 ≤ p' ∧ p' ≤ t.length ∧ qr_S t O wr p' wr' fl' v)) args s 0 0 (jj_A base)) 97 [(0, .ref qr), (1, .int v), (2, .int v2)] [] (qr_w h0 qr tx bv t p1 wr1 fl1) 0 0 := by
        intro hno
        rw [if_neg hno] at hI
        refine jj_go C 1 rfl ?_
        refine jj_iret C rfl rfl rfl (Nat.le_of_ble_eq_true rfl) (Nat.le_of_ble_eq_true rfl) ⟨p1, wr1, fl1, v, rfl, rfl, h1, h2, ?_⟩
        rcases hI with hI | ⟨a, b, c⟩
        · exact Or.inl hI
        · exact Or.inr ⟨a, b, c.symm⟩
      have hn := qr_n_le (t := t) (p := p1) h2
      have go : (t.getD p1 0 = 42 ∨ t.getD p1 0 = 47) → ∀ b3 : Bool, (t.getD p1 0 == 42) = b3 → jj_J p l e (jj_rm 6 0 0) s m args below meth cc D base 5 (MQ below (jj_Q D base (fun q h' => ∃ p' wr' fl' v, q = some (.int v) ∧ h' = qr_w h0 qr tx bv t p' wr' fl' ∧ p0 ≤ p' ∧ p' ≤ t.length ∧ qr_S t O wr p' wr' fl' v)) args s 0 0 (jj_A base)) 50 [(0, .ref qr), (1, .int v), (2, .int v2)] [.int (jb_I b3)] (qr_w h0 qr tx bv t p1 wr1 fl1) 0 0 := by
        intro hyes b3 hb3
        rw [if_pos hyes] at hI
        refine jj_go C 2 rfl ?_
        refine jj_callV C rfl ml_QR_51 wd_596 ho1 rfl se_QR_QR_step (qr_step hq h2) (rest := []) rfl rfl ⟨Nat.le_of_ble_eq_true rfl, Nat.le_of_ble_eq_true rfl⟩ (Nat.le_of_ble_eq_true rfl) (Nat.le_of_ble_eq_true rfl) (Nat.le_of_ble_eq_true rfl) ?_
        rintro q9 h9 ⟨rfl, hh9⟩
        rw [hh9]
        have ho2 := qr_w_o (h0 := h0) (qr := qr) (tx := tx) (bv := bv) (t := t) (p := qr_n t p1) (wr := wr1) (fl := fl1)
        refine jj_go C 1 rfl ?_
        refine jj_callV C rfl ml_QR_74 wd_610 ho2 rfl se_QR_QR_unit (qr_unit hq hn.2) (rest := []) rfl rfl ⟨Nat.le_of_ble_eq_true rfl, Nat.le_of_ble_eq_true rfl⟩ (Nat.le_of_ble_eq_true rfl) (Nat.le_of_ble_eq_true rfl) (Nat.le_of_ble_eq_true rfl) ?_
        rintro q9 h9 ⟨p2, wr2, fl2, w, rfl, rfl, c1, c2, hS⟩
        have ho3 := qr_w_o (h0 := h0) (qr := qr) (tx := tx) (bv := bv) (t := t) (p := p2) (wr := wr2) (fl := fl2)
        have next : ∀ (v' : Int32) (fl' : Bool), ((wr2 = true ∧ (wr = true ∨ O = none)) ∨ (wr = false ∧ wr2 = false ∧ qx_pl E k (t.drop p2) v' fl' = O)) → jj_J p l e (jj_rm 6 0 0) s m args below meth cc D base 5 (MQ below (jj_Q D base (fun q h' => ∃ p' wr' fl' v, q = some (.int v) ∧ h' = qr_w h0 qr tx bv t p' wr' fl' ∧ p0 ≤ p' ∧ p' ≤ t.length ∧ qr_S t O wr p' wr' fl' v)) args s 0 0 (jj_A base)) 91 [(0, .ref qr), (1, .int v'), (2, .int v2), (3, .int (jb_I b3)), (4, .int w)] [] (qr_w h0 qr tx bv t p2 wr2 fl') 0 0 := by
          intro v' fl' hI'
          refine jj_go C 2 rfl ?_
          refine jj_less (lc' := [(0, .ref qr), (1, .int v'), (2, .int (v2 + 1))]) (fun q hq => List.mem_append_left [_, _] hq) (Nat.le_refl _) (Nat.le_refl _) ?_
          exact ih p2 v' (v2 + 1) wr2 fl' (by rw [hv2, nI_1]; congr 1; omega) (by omega) (by omega) c2 hI'
        -- what the unit said
        have hU : (wr2 = true ∧ (wr = true ∨ O = none)) ∨ (wr = false ∧ wr2 = false ∧ (if t.getD p1 0 = 42 then qx_pl E k (t.drop p2) (v * w) fl2 else if w = 0 then qx_pl E k (t.drop p2) v true else qx_pl E k (t.drop p2) (v / w) fl2) = O) := by
          rcases hI with ⟨a, b⟩ | ⟨a, b, c⟩
          · rcases hS with ⟨s1, -⟩ | ⟨s1, -, -⟩
            · exact Or.inl ⟨s1, b⟩
            · rw [a] at s1
              cases s1
          · cases hun : qx_un E (t.drop (qr_n t p1)) with
            | none =>
              rw [hun] at c
              rcases hS with ⟨s1, s2⟩ | ⟨-, -, s2⟩
              · exact Or.inl ⟨s1, Or.inr c.symm⟩
              · rw [hun] at s2
                cases s2
            | some r =>
              obtain ⟨r1, r2, r3⟩ := r
              rw [hun] at c
              rcases hS with ⟨s1, s2⟩ | ⟨-, s1, s2⟩
              · rcases s2 with s2 | s2
                · rw [b] at s2
                  cases s2
                · rw [hun] at s2
                  cases s2
              · rw [hun] at s2
                have s2 : some (r1, r2, fl1 || r3) = some (t.drop p2, w, fl2) := s2
                cases s2
                exact Or.inr ⟨a, s1, c⟩
        refine jj_go C 2 rfl ?_
        cases b3 with
        | true =>
          have h42 : t.getD p1 0 = 42 := by simpa using hb3
          rw [if_pos h42] at hU
          refine jj_if C rfl (fun z => absurd z (by decide)) (fun _ => ?_)
          refine jj_go C 5 rfl ?_
          exact next (v * w) fl2 hU
        | false =>
          have h42 : ¬ t.getD p1 0 = 42 := by simpa using hb3
          rw [if_neg h42] at hU
          refine jj_if C rfl (fun _ => ?_) (fun z => absurd rfl z)
          refine jj_go C 1 rfl ?_
          refine jj_if C rfl (fun z => ?_) (fun z => ?_)
          · rw [if_pos z] at hU
            refine jj_go C 2 rfl ?_
            refine jj_putf C rfl fl_QR_19 ho3 rfl rfl (Nat.le_of_ble_eq_true rfl) ?_
            refine jj_eq (h' := qr_w h0 qr tx bv t p2 wr2 true) rfl rfl rfl (by unfold qr_w; rw [jj_up_up]; rfl) ?_
            refine jj_go C 1 rfl ?_
            exact next v true hU
          · rw [if_neg z] at hU
            refine jj_go C 2 rfl ?_
            refine jj_idiv C rfl z ?_
            refine jj_go C 1 rfl ?_
            exact next (v / w) fl2 hU
      have test : (t.getD p1 0 = 42 ∨ t.getD p1 0 = 47) → jj_J p l e (jj_rm 6 0 0) s m args below meth cc D base 5 (MQ below (jj_Q D base (fun q h' => ∃ p' wr' fl' v, q = some (.int v) ∧ h' = qr_w h0 qr tx bv t p' wr' fl' ∧ p0 ≤ p' ∧ p' ≤ t.length ∧ qr_S t O wr p' wr' fl' v)) args s 0 0 (jj_A base)) 36 [(0, .ref qr), (1, .int v), (2, .int v2)] [] (qr_w h0 qr tx bv t p1 wr1 fl1) 0 0 := by
        intro hyes
        refine jj_go C 1 rfl ?_
        refine jj_getf C rfl fl_QR_40 ho1 rfl ?_
        refine jj_go C 1 rfl ?_
        refine jj_if C rfl (fun z => ?_) (fun z => ?_)
        · have g := (nI_eq (a := t.getD p1 0) (b := 42) (by omega) (by decide)).mp z
          refine jj_go C 2 rfl ?_
          exact go hyes true (by rw [g]; rfl)
        · have g : ¬ t.getD p1 0 = 42 := fun q => z (by rw [q]; rfl)
          refine jj_go C 1 rfl ?_
          exact go hyes false (beq_eq_false_iff_ne.mpr g)
      refine jj_go C 2 rfl ?_
      refine jj_getf C rfl fl_QR_22 ho1 rfl ?_
      refine jj_callV C rfl ml_QR_48 wd_364 hr1 rfl se_ST_ST_length (kt_ST_length hs1) (rest := [.int v2]) rfl rfl ⟨Nat.le_of_ble_eq_true rfl, Nat.le_of_ble_eq_true rfl⟩ (Nat.le_of_ble_eq_true rfl) (Nat.le_of_ble_eq_true rfl) (Nat.le_of_ble_eq_true rfl) ?_
      rintro q9 h9 ⟨rfl, hh9⟩
      rw [hh9]
      refine jj_if C rfl (fun z => absurd z (by rw [hv2]; exact nI_ge (by omega) (by omega))) (fun _ => ?_)
      refine jj_go C 1 rfl ?_
      refine jj_getf C rfl fl_QR_40 ho1 rfl ?_
      refine jj_go C 1 rfl ?_
      refine jj_if C rfl (fun z => ?_) (fun z => ?_)
      · exact test (Or.inl ((nI_eq (a := t.getD p1 0) (b := 42) (by omega) (by decide)).mp z))
      · have g : ¬ t.getD p1 0 = 42 := fun q => z (by rw [q]; rfl)
        refine jj_go C 1 rfl ?_
        refine jj_getf C rfl fl_QR_40 ho1 rfl ?_
        refine jj_go C 1 rfl ?_
        refine jj_if C rfl (fun z2 => ?_) (fun z2 => ?_)
        · exact test (Or.inr ((nI_eq (a := t.getD p1 0) (b := 47) (by omega) (by decide)).mp z2))
        · have g2 : ¬ t.getD p1 0 = 47 := fun q => z2 (by rw [q]; rfl)
          exact stop (by omega)
  refine jj_go C 1 rfl ?_
  refine jj_callV C rfl ml_QR_74 wd_610 ho rfl se_QR_QR_unit (qr_unit hq hp0) (rest := []) rfl rfl ⟨Nat.le_of_ble_eq_true rfl, Nat.le_of_ble_eq_true rfl⟩ (Nat.le_of_ble_eq_true rfl) (Nat.le_of_ble_eq_true rfl) (Nat.le_of_ble_eq_true rfl) ?_
  rintro q9 h9 ⟨p1, wr1, fl1, v, rfl, rfl, c1, c2, hS⟩
  refine jj_go C 3 rfl ?_
  refine loop t.length p1 v 0 wr1 fl1 (by rw [Nat.sub_self]; exact nI_0.symm) (Nat.le_refl _) c1 c2 ?_
  unfold qx_pr at hO
  rcases hS with ⟨s1, s2⟩ | ⟨s0, s1, s2⟩
  · refine Or.inl ⟨s1, ?_⟩
    rcases s2 with s2 | s2
    · exact Or.inl s2
    · cases hun : qx_un E (t.drop p0) with
      | none =>
        rw [hun] at hO
        exact Or.inr hO.symm
      | some r =>
        rw [hun] at s2
        cases s2
  · cases hun : qx_un E (t.drop p0) with
    | none =>
      rw [hun] at s2
      cases s2
    | some r =>
      obtain ⟨r1, r2, r3⟩ := r
      rw [hun] at s2 hO
      have s2 : some (r1, r2, fl || r3) = some (t.drop p1, v, fl1) := s2
      cases s2
      exact Or.inr ⟨s0, s1, hO⟩
theorem qr_sum {O : Option (List Nat × Int32 × Bool)} (hq : qr_ok aC h0 qr tx txb bv t E) (hp0 : p0 ≤ t.length) (hO : qx_su E t.length (t.drop p0) fl = O) : jj_Ct l D aC base yn_QR_sum yb_QR_sum 5 (some .int) 7 0 0 [.ref qr] (qr_w h0 qr tx bv t p0 wr fl) (fun q h' => ∃ p' wr' fl' v, q = some (.int v) ∧ h' = qr_w h0 qr tx bv t p' wr' fl' ∧ p0 ≤ p' ∧ p' ≤ t.length ∧ qr_S t O wr p' wr' fl' v) := by
  have hlen := hq.2.2.1
  have hch := hq.1.lt
  refine jj_start (tb := tb_QR_sum) (by decide) tg_QR_sum (Nat.le_of_ble_eq_true rfl) ?_
  intro p e s m args below meth cc C
  have ho := qr_w_o (h0 := h0) (qr := qr) (tx := tx) (bv := bv) (t := t) (p := p0) (wr := wr) (fl := fl)
  have loop : ∀ (k p1 : Nat) (v v2 : Int32) (wr1 fl1 : Bool), v2 = nI (t.length - k) → k ≤ t.length → p0 ≤ p1 → p1 ≤ t.length → ((wr1 = true ∧ (wr = true ∨ O = none)) ∨ (wr = false ∧ wr1 = false ∧ qx_sl E t.length k (t.drop p1) v fl1 = O)) → jj_J p l e (jj_rm 7 0 0) s m args below meth cc D base 5 (MQ below (jj_Q D base (fun q h' => ∃ p' wr' fl' v, q = some (.int v) ∧ h' = qr_w h0 qr tx bv t p' wr' fl' ∧ p0 ≤ p' ∧ p' ≤ t.length ∧ qr_S t O wr p' wr' fl' v)) args s 0 0 (jj_A base)) 7 [(0, .ref qr), (1, .int v), (2, .int v2)] [] (qr_w h0 qr tx bv t p1 wr1 fl1) 0 0 := by
    intro k
    induction k with
    | zero =>
      intro p1 v v2 wr1 fl1 hv2 hk h1 h2 hI
      have ho1 := qr_w_o (h0 := h0) (qr := qr) (tx := tx) (bv := bv) (t := t) (p := p1) (wr := wr1) (fl := fl1)
      have hs1 : kx_ST aC (qr_w h0 qr tx bv t p1 wr1 fl1) tx txb t := hq.st _
      obtain ⟨fs, hr1⟩ := hs1.recv
      refine jj_go C 2 rfl ?_
      refine jj_getf C rfl fl_QR_22 ho1 rfl ?_
      refine jj_callV C rfl ml_QR_48 wd_364 hr1 rfl se_ST_ST_length (kt_ST_length hs1) (rest := [.int v2]) rfl rfl ⟨Nat.le_of_ble_eq_true rfl, Nat.le_of_ble_eq_true rfl⟩ (Nat.le_of_ble_eq_true rfl) (Nat.le_of_ble_eq_true rfl) (Nat.le_of_ble_eq_true rfl) ?_
      rintro q9 h9 ⟨rfl, hh9⟩
      rw [hh9]
      refine jj_if C rfl (fun _ => ?_) (fun z => absurd (by rw [hv2]; exact nI_le (by omega) (by omega)) z)
      refine jj_go C 1 rfl ?_
      refine jj_iret C rfl rfl rfl (Nat.le_of_ble_eq_true rfl) (Nat.le_of_ble_eq_true rfl) ⟨p1, wr1, fl1, v, rfl, rfl, h1, h2, ?_⟩
      rcases hI with hI | ⟨a, b, c⟩
      · exact Or.inl hI
      · exact Or.inr ⟨a, b, c.symm⟩
    | succ k ih =>
      intro p1 v v2 wr1 fl1 hv2 hk h1 h2 hI
      have hc1 := hch p1
      have ho1 := qr_w_o (h0 := h0) (qr := qr) (tx := tx) (bv := bv) (t := t) (p := p1) (wr := wr1) (fl := fl1)
      have hs1 : kx_ST aC (qr_w h0 qr tx bv t p1 wr1 fl1) tx txb t := hq.st _
      obtain ⟨fs, hr1⟩ := hs1.recv
      have hpl : qx_sl E t.length (k + 1) (t.drop p1) v fl1 = (if t.getD p1 0 = 43 ∨ t.getD p1 0 = 45 then (match qx_pr E t.length (t.drop (qr_n t p1)) fl1 with | none => none | some r => qx_sl E t.length k r.1 (if t.getD p1 0 = 43 then v + r.2.1 else v - r.2.1) r.2.2) else some (t.drop p1, v, fl1)) := by
        rw [qr_n_t h2, ← qd_hd (t := t) (p := p1)]
        rfl
      rw [hpl] at hI
      have stop : ¬ (t.getD p1 0 = 43 ∨ t.getD p1 0 = 45) → jj_J p l e (jj_rm 7 0 0) s m args below meth cc D base 5 (MQ below (jj_Q D base (fun q h' => ∃ p' wr' fl' v, q = some (.int v) ∧ h' = qr_w h0 qr tx bv t p' wr' fl' ∧ p0 ≤ p' ∧ p' ≤ t.length ∧ qr_S t O wr p' wr' fl' v)) args s 0 0 (jj_A base)) 83 [(0, .ref qr), (1, .int v), (2, .int v2)] [] (qr_w h0 qr tx bv t p1 wr1 fl1) 0 0 := by
        intro hno
        rw [if_neg hno] at hI
        refine jj_go C 1 rfl ?_
        refine jj_iret C rfl rfl rfl (Nat.le_of_ble_eq_true rfl) (Nat.le_of_ble_eq_true rfl) ⟨p1, wr1, fl1, v, rfl, rfl, h1, h2, ?_⟩
        rcases hI with hI | ⟨a, b, c⟩
        · exact Or.inl hI
        · exact Or.inr ⟨a, b, c.symm⟩
      have hn := qr_n_le (t := t) (p := p1) h2
      have go : (t.getD p1 0 = 43 ∨ t.getD p1 0 = 45) → ∀ b3 : Bool, (t.getD p1 0 == 43) = b3 → jj_J p l e (jj_rm 7 0 0) s m args below meth cc D base 5 (MQ below (jj_Q D base (fun q h' => ∃ p' wr' fl' v, q = some (.int v) ∧ h' = qr_w h0 qr tx bv t p' wr' fl' ∧ p0 ≤ p' ∧ p' ≤ t.length ∧ qr_S t O wr p' wr' fl' v)) args s 0 0 (jj_A base)) 50 [(0, .ref qr), (1, .int v), (2, .int v2)] [.int (jb_I b3)] (qr_w h0 qr tx bv t p1 wr1 fl1) 0 0 := by
        intro hyes b3 hb3
        rw [if_pos hyes] at hI
        refine jj_go C 2 rfl ?_
        refine jj_callV C rfl ml_QR_51 wd_596 ho1 rfl se_QR_QR_step (qr_step hq h2) (rest := []) rfl rfl ⟨Nat.le_of_ble_eq_true rfl, Nat.le_of_ble_eq_true rfl⟩ (Nat.le_of_ble_eq_true rfl) (Nat.le_of_ble_eq_true rfl) (Nat.le_of_ble_eq_true rfl) ?_
        rintro q9 h9 ⟨rfl, hh9⟩
        rw [hh9]
        have ho2 := qr_w_o (h0 := h0) (qr := qr) (tx := tx) (bv := bv) (t := t) (p := qr_n t p1) (wr := wr1) (fl := fl1)
        refine jj_go C 1 rfl ?_
        refine jj_callV C rfl ml_QR_71 wd_606 ho2 rfl se_QR_QR_product (qr_product hq hn.2 rfl) (rest := []) rfl rfl ⟨Nat.le_of_ble_eq_true rfl, Nat.le_of_ble_eq_true rfl⟩ (Nat.le_of_ble_eq_true rfl) (Nat.le_of_ble_eq_true rfl) (Nat.le_of_ble_eq_true rfl) ?_
        rintro q9 h9 ⟨p2, wr2, fl2, w, rfl, rfl, c1, c2, hS⟩
        have next : ∀ (v' : Int32), ((wr2 = true ∧ (wr = true ∨ O = none)) ∨ (wr = false ∧ wr2 = false ∧ qx_sl E t.length k (t.drop p2) v' fl2 = O)) → jj_J p l e (jj_rm 7 0 0) s m args below meth cc D base 5 (MQ below (jj_Q D base (fun q h' => ∃ p' wr' fl' v, q = some (.int v) ∧ h' = qr_w h0 qr tx bv t p' wr' fl' ∧ p0 ≤ p' ∧ p' ≤ t.length ∧ qr_S t O wr p' wr' fl' v)) args s 0 0 (jj_A base)) 76 [(0, .ref qr), (1, .int v), (2, .int v2), (3, .int (jb_I b3)), (4, .int w)] [.int v'] (qr_w h0 qr tx bv t p2 wr2 fl2) 0 0 := by
          intro v' hI'
          refine jj_go C 3 rfl ?_
          refine jj_less (lc' := [(0, .ref qr), (1, .int v'), (2, .int (v2 + 1))]) (fun q hq => List.mem_append_left [_, _] hq) (Nat.le_refl _) (Nat.le_refl _) ?_
          exact ih p2 v' (v2 + 1) wr2 fl2 (by rw [hv2, nI_1]; congr 1; omega) (by omega) (by omega) c2 hI'
        have hU : (wr2 = true ∧ (wr = true ∨ O = none)) ∨ (wr = false ∧ wr2 = false ∧ qx_sl E t.length k (t.drop p2) (if t.getD p1 0 = 43 then v + w else v - w) fl2 = O) := by
          rcases hI with ⟨a, b⟩ | ⟨a, b, c⟩
          · rcases hS with ⟨s1, -⟩ | ⟨s1, -, -⟩
            · exact Or.inl ⟨s1, b⟩
            · rw [a] at s1
              cases s1
          · cases hun : qx_pr E t.length (t.drop (qr_n t p1)) fl1 with
            | none =>
              rw [hun] at c
              rcases hS with ⟨s1, s2⟩ | ⟨-, -, s2⟩
              · exact Or.inl ⟨s1, Or.inr c.symm⟩
              · rw [hun] at s2
                cases s2
            | some r =>
              rw [hun] at c
              rcases hS with ⟨s1, s2⟩ | ⟨-, s1, s2⟩
              · rcases s2 with s2 | s2
                · rw [b] at s2
                  cases s2
                · rw [hun] at s2
                  cases s2
              · rw [hun] at s2
                cases s2
                exact Or.inr ⟨a, s1, c⟩
        refine jj_go C 2 rfl ?_
        cases b3 with
        | true =>
          have h42 : t.getD p1 0 = 43 := by simpa using hb3
          rw [if_pos h42] at hU
          refine jj_if C rfl (fun z => absurd z (by decide)) (fun _ => ?_)
          refine jj_go C 4 rfl ?_
          exact next (v + w) hU
        | false =>
          have h42 : ¬ t.getD p1 0 = 43 := by simpa using hb3
          rw [if_neg h42] at hU
          refine jj_if C rfl (fun _ => ?_) (fun z => absurd rfl z)
          refine jj_go C 3 rfl ?_
          exact next (v - w) hU
      have test : (t.getD p1 0 = 43 ∨ t.getD p1 0 = 45) → jj_J p l e (jj_rm 7 0 0) s m args below meth cc D base 5 (MQ below (jj_Q D base (fun q h' => ∃ p' wr' fl' v, q = some (.int v) ∧ h' = qr_w h0 qr tx bv t p' wr' fl' ∧ p0 ≤ p' ∧ p' ≤ t.length ∧ qr_S t O wr p' wr' fl' v)) args s 0 0 (jj_A base)) 36 [(0, .ref qr), (1, .int v), (2, .int v2)] [] (qr_w h0 qr tx bv t p1 wr1 fl1) 0 0 := by
        intro hyes
        refine jj_go C 1 rfl ?_
        refine jj_getf C rfl fl_QR_40 ho1 rfl ?_
        refine jj_go C 1 rfl ?_
        refine jj_if C rfl (fun z => ?_) (fun z => ?_)
        · have g := (nI_eq (a := t.getD p1 0) (b := 43) (by omega) (by decide)).mp z
          refine jj_go C 2 rfl ?_
          exact go hyes true (by rw [g]; rfl)
        · have g : ¬ t.getD p1 0 = 43 := fun q => z (by rw [q]; rfl)
          refine jj_go C 1 rfl ?_
          exact go hyes false (beq_eq_false_iff_ne.mpr g)
      refine jj_go C 2 rfl ?_
      refine jj_getf C rfl fl_QR_22 ho1 rfl ?_
      refine jj_callV C rfl ml_QR_48 wd_364 hr1 rfl se_ST_ST_length (kt_ST_length hs1) (rest := [.int v2]) rfl rfl ⟨Nat.le_of_ble_eq_true rfl, Nat.le_of_ble_eq_true rfl⟩ (Nat.le_of_ble_eq_true rfl) (Nat.le_of_ble_eq_true rfl) (Nat.le_of_ble_eq_true rfl) ?_
      rintro q9 h9 ⟨rfl, hh9⟩
      rw [hh9]
      refine jj_if C rfl (fun z => absurd z (by rw [hv2]; exact nI_ge (by omega) (by omega))) (fun _ => ?_)
      refine jj_go C 1 rfl ?_
      refine jj_getf C rfl fl_QR_40 ho1 rfl ?_
      refine jj_go C 1 rfl ?_
      refine jj_if C rfl (fun z => ?_) (fun z => ?_)
      · exact test (Or.inl ((nI_eq (a := t.getD p1 0) (b := 43) (by omega) (by decide)).mp z))
      · have g : ¬ t.getD p1 0 = 43 := fun q => z (by rw [q]; rfl)
        refine jj_go C 1 rfl ?_
        refine jj_getf C rfl fl_QR_40 ho1 rfl ?_
        refine jj_go C 1 rfl ?_
        refine jj_if C rfl (fun z2 => ?_) (fun z2 => ?_)
        · exact test (Or.inr ((nI_eq (a := t.getD p1 0) (b := 45) (by omega) (by decide)).mp z2))
        · have g2 : ¬ t.getD p1 0 = 45 := fun q => z2 (by rw [q]; rfl)
          exact stop (by omega)
  refine jj_go C 1 rfl ?_
  refine jj_callV C rfl ml_QR_71 wd_606 ho rfl se_QR_QR_product (qr_product hq hp0 rfl) (rest := []) rfl rfl ⟨Nat.le_of_ble_eq_true rfl, Nat.le_of_ble_eq_true rfl⟩ (Nat.le_of_ble_eq_true rfl) (Nat.le_of_ble_eq_true rfl) (Nat.le_of_ble_eq_true rfl) ?_
  rintro q9 h9 ⟨p1, wr1, fl1, v, rfl, rfl, c1, c2, hS⟩
  refine jj_go C 3 rfl ?_
  refine loop t.length p1 v 0 wr1 fl1 (by rw [Nat.sub_self]; exact nI_0.symm) (Nat.le_refl _) c1 c2 ?_
  unfold qx_su at hO
  rcases hS with ⟨s1, s2⟩ | ⟨s0, s1, s2⟩
  · refine Or.inl ⟨s1, ?_⟩
    rcases s2 with s2 | s2
    · exact Or.inl s2
    · rw [s2] at hO
      exact Or.inr hO.symm
  · rw [s2] at hO
    exact Or.inr ⟨s0, s1, hO⟩
theorem qr_isRelation {c : Nat} {h : jjHp} (hc : c < 128) : jj_Ct l D aC base yn_QR_isRelation yb_QR_isRelation 1 (some .boolean) 0 0 0 [.int (nI c)] h (fun q h' => q = some (.int (jb_I (pc_rl c))) ∧ h' = h) := by
  refine jj_start (tb := tb_QR_isRelation) (by decide) tg_QR_isRelation (Nat.le_of_ble_eq_true rfl) ?_
  intro p e s m args below meth cc C
  have yes : pc_rl c = true → jj_J p l e (jj_rm 0 0 0) s m args below meth cc D base 1 (MQ below (jj_Q D base (fun q h' => q = some (.int (jb_I (pc_rl c))) ∧ h' = h)) args s 0 0 (jj_A base)) 24 [(0, .int (nI c))] [] h 0 0 := by
    intro hy
    refine jj_go C 2 rfl ?_
    exact jj_iret C rfl rfl rfl (Nat.le_of_ble_eq_true rfl) (Nat.le_of_ble_eq_true rfl) ⟨by rw [hy]; rfl, rfl⟩
  refine jj_go C 2 rfl ?_
  refine jj_if C rfl (fun z => yes (pc_rl_i.mpr (Or.inl ((nI_eq (a := c) (b := 61) (by omega) (by decide)).mp z)))) (fun z => ?_)
  have g1 : ¬ c = 61 := fun q => z (by rw [q]; rfl)
  refine jj_go C 2 rfl ?_
  refine jj_if C rfl (fun z => yes (pc_rl_i.mpr (Or.inr (Or.inl ((nI_eq (a := c) (b := 60) (by omega) (by decide)).mp z))))) (fun z => ?_)
  have g2 : ¬ c = 60 := fun q => z (by rw [q]; rfl)
  refine jj_go C 2 rfl ?_
  refine jj_if C rfl (fun z => yes (pc_rl_i.mpr (Or.inr (Or.inr (Or.inl ((nI_eq (a := c) (b := 62) (by omega) (by decide)).mp z)))))) (fun z => ?_)
  have g3 : ¬ c = 62 := fun q => z (by rw [q]; rfl)
  refine jj_go C 2 rfl ?_
  refine jj_if C rfl (fun z => yes (pc_rl_i.mpr (Or.inr (Or.inr (Or.inr ((nI_eq (a := c) (b := 35) (by omega) (by decide)).mp z)))))) (fun z => ?_)
  have g4 : ¬ c = 35 := fun q => z (by rw [q]; rfl)
  refine jj_go C 1 rfl ?_
  exact jj_iret C rfl rfl rfl (Nat.le_of_ble_eq_true rfl) (Nat.le_of_ble_eq_true rfl) ⟨by rw [pb_f pc_rl_i (by omega)]; rfl, rfl⟩
theorem qr_compared {c : Nat} {h : jjHp} {x z0 : Int32} (hc : c < 128) : jj_Ct l D aC base yn_QR_compared yb_QR_compared 4 (some .int) 0 0 0 [.int x, .int (nI c), .int z0] h (fun q h' => q = some (.int (jb_I (qx_cm x c z0))) ∧ h' = h) := by
  refine jj_start (tb := tb_QR_compared) (by decide) tg_QR_compared (Nat.le_of_ble_eq_true rfl) ?_
  intro p e s m args below meth cc C
  have fin : ∀ b : Bool, qx_cm x c z0 = b → jj_J p l e (jj_rm 0 0 0) s m args below meth cc D base 4 (MQ below (jj_Q D base (fun q h' => q = some (.int (jb_I (qx_cm x c z0))) ∧ h' = h)) args s 0 0 (jj_A base)) 49 [(0, .int x), (1, .int (nI c)), (2, .int z0)] [.int (jb_I b)] h 0 0 := by
    intro b hb
    refine jj_go C 2 rfl ?_
    cases b with
    | false =>
      refine jj_if C rfl (fun _ => ?_) (fun z => absurd rfl z)
      refine jj_go C 1 rfl ?_
      exact jj_iret C rfl rfl rfl (Nat.le_of_ble_eq_true rfl) (Nat.le_of_ble_eq_true rfl) ⟨by rw [hb]; rfl, rfl⟩
    | true =>
      refine jj_if C rfl (fun z => absurd z (by decide)) (fun _ => ?_)
      refine jj_go C 2 rfl ?_
      exact jj_iret C rfl rfl rfl (Nat.le_of_ble_eq_true rfl) (Nat.le_of_ble_eq_true rfl) ⟨by rw [hb]; rfl, rfl⟩
  have yes : qx_cm x c z0 = true → jj_J p l e (jj_rm 0 0 0) s m args below meth cc D base 4 (MQ below (jj_Q D base (fun q h' => q = some (.int (jb_I (qx_cm x c z0))) ∧ h' = h)) args s 0 0 (jj_A base)) 44 [(0, .int x), (1, .int (nI c)), (2, .int z0)] [] h 0 0 := by
    intro hy
    refine jj_go C 2 rfl ?_
    exact fin true hy
  unfold qx_cm at fin yes
  have e3 : ¬ (c = 61 ∧ x = z0) → ¬ (c = 60 ∧ x < z0) → ¬ (c = 62 ∧ z0 < x) → jj_J p l e (jj_rm 0 0 0) s m args below meth cc D base 4 (MQ below (jj_Q D base (fun q h' => q = some (.int (jb_I (qx_cm x c z0))) ∧ h' = h)) args s 0 0 (jj_A base)) 33 [(0, .int x), (1, .int (nI c)), (2, .int z0)] [] h 0 0 := by
    intro n1 n2 n3
    refine jj_go C 2 rfl ?_
    refine jj_if C rfl (fun z => ?_) (fun z => ?_)
    · have g := (nI_eq (a := c) (b := 35) (by omega) (by decide)).mp z
      refine jj_go C 2 rfl ?_
      refine jj_if C rfl (fun z2 => ?_) (fun z2 => ?_)
      · refine jj_go C 1 rfl ?_
        exact fin false (by rw [g]; simp [z2])
      · exact yes (by rw [g]; simp [z2])
    · have g : ¬ c = 35 := fun q => z (by rw [q]; rfl)
      refine jj_go C 1 rfl ?_
      refine fin false ?_
      simp only [Bool.or_eq_false_iff, Bool.and_eq_false_iff, beq_eq_false_iff_ne, decide_eq_false_iff_not]
      refine ⟨?_, ?_, ?_, Or.inl g⟩
      · by_cases q : c = 61
        · exact Or.inr (fun q2 => n1 ⟨q, q2⟩)
        · exact Or.inl q
      · by_cases q : c = 60
        · exact Or.inr (fun q2 => n2 ⟨q, q2⟩)
        · exact Or.inl q
      · by_cases q : c = 62
        · exact Or.inr (fun q2 => n3 ⟨q, q2⟩)
        · exact Or.inl q
  have e2 : ¬ (c = 61 ∧ x = z0) → ¬ (c = 60 ∧ x < z0) → jj_J p l e (jj_rm 0 0 0) s m args below meth cc D base 4 (MQ below (jj_Q D base (fun q h' => q = some (.int (jb_I (qx_cm x c z0))) ∧ h' = h)) args s 0 0 (jj_A base)) 22 [(0, .int x), (1, .int (nI c)), (2, .int z0)] [] h 0 0 := by
    intro n1 n2
    refine jj_go C 2 rfl ?_
    refine jj_if C rfl (fun z => ?_) (fun z => ?_)
    · have g := (nI_eq (a := c) (b := 62) (by omega) (by decide)).mp z
      refine jj_go C 2 rfl ?_
      refine jj_if C rfl (fun z2 => ?_) (fun z2 => ?_)
      · exact yes (by rw [g]; simp [show z0 < x from z2])
      · exact e3 n1 n2 (fun q => z2 q.2)
    · have g : ¬ c = 62 := fun q => z (by rw [q]; rfl)
      exact e3 n1 n2 (fun q => g q.1)
  have e1 : ¬ (c = 61 ∧ x = z0) → jj_J p l e (jj_rm 0 0 0) s m args below meth cc D base 4 (MQ below (jj_Q D base (fun q h' => q = some (.int (jb_I (qx_cm x c z0))) ∧ h' = h)) args s 0 0 (jj_A base)) 11 [(0, .int x), (1, .int (nI c)), (2, .int z0)] [] h 0 0 := by
    intro n1
    refine jj_go C 2 rfl ?_
    refine jj_if C rfl (fun z => ?_) (fun z => ?_)
    · have g := (nI_eq (a := c) (b := 60) (by omega) (by decide)).mp z
      refine jj_go C 2 rfl ?_
      refine jj_if C rfl (fun z2 => ?_) (fun z2 => ?_)
      · exact yes (by rw [g]; simp [show x < z0 from z2])
      · exact e2 n1 (fun q => z2 q.2)
    · have g : ¬ c = 60 := fun q => z (by rw [q]; rfl)
      exact e2 n1 (fun q => g q.1)
  refine jj_go C 2 rfl ?_
  refine jj_if C rfl (fun z => ?_) (fun z => ?_)
  · have g := (nI_eq (a := c) (b := 61) (by omega) (by decide)).mp z
    refine jj_go C 2 rfl ?_
    refine jj_if C rfl (fun z2 => ?_) (fun z2 => ?_)
    · exact yes (by rw [g]; simp [z2])
    · exact e1 (fun q => z2 q.2)
  · have g : ¬ c = 61 := fun q => z (by rw [q]; rfl)
    exact e1 (fun q => g q.1)
end QRX
