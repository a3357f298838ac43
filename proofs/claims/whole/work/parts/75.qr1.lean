/-! The class's QueryReader: step, unit -/
abbrev qr_fs (tx : Nat) (bv : Value) (t : List Nat) (p : Nat) (wr fl : Bool) : List Value := [.ref tx, bv, .int (nI p), .int (jb_I wr), .int (nI (t.getD p 0)), .int (jb_I fl)]
/-- the world with the reader in this state -/
def qr_w (h0 : jjHp) (qr tx : Nat) (bv : Value) (t : List Nat) (p : Nat) (wr fl : Bool) : jjHp := jj_up h0 qr (.inr (5, qr_fs tx bv t p wr fl))
/-- the bean that is looked at says E -/
def qe_ok (aC : Nat → ClassId) (h : jjHp) (bv : Value) (E : Nat → Option Int32) : Prop := (bv = .null ∧ ∀ i, i < 5 → E i = none) ∨ ∃ be va pr nm V B, bv = .ref be ∧ h be = some (.inr (1, [nm, .ref va, .ref pr])) ∧ h va = some (.inl (aC 0, 5, .inl V)) ∧ h pr = some (.inl (aC 1, 5, .inl B)) ∧ ∀ i, i < 5 → E i = if B i = 0 then none else some (V i)
theorem ky_fitc : ∀ k, k < 128 → fits FieldType.char (Value.int (nI k)) = true := by decide +kernel
/-- what a reader stands on -/
def qr_ok (aC : Nat → ClassId) (h0 : jjHp) (qr tx txb : Nat) (bv : Value) (t : List Nat) (E : Nat → Option Int32) : Prop := kx_ST aC h0 tx txb t ∧ qe_ok aC h0 bv E ∧ t.length ≤ 60 ∧ ∃ fs, h0 qr = some (.inr (5, fs))
theorem qr_w_o {h0 : jjHp} {qr tx : Nat} {bv : Value} {t : List Nat} {p : Nat} {wr fl : Bool} : qr_w h0 qr tx bv t p wr fl qr = some (.inr (5, qr_fs tx bv t p wr fl)) := jj_up_s
theorem qr_ok.st {aC : Nat → ClassId} {h0 : jjHp} {qr tx txb : Nat} {bv : Value} {t : List Nat} {E : Nat → Option Int32} (h : qr_ok aC h0 qr tx txb bv t E) (x : List Value) : kx_ST aC (jj_up h0 qr (.inr (5, x))) tx txb t := by
  obtain ⟨hs, -, -, fs, hq⟩ := h
  obtain ⟨hs1, hz, f, ho, hv, htx⟩ := hs
  refine ⟨hs1, hz, f, ?_, ?_, htx⟩
  · rw [jj_up_n (fun q => by rw [q, hq] at ho; cases ho)]
    exact ho
  · rw [jj_up_n (fun q => by rw [q, hq] at hv; cases hv)]
    exact hv
theorem qr_ok.qe {aC : Nat → ClassId} {h0 : jjHp} {qr tx txb : Nat} {bv : Value} {t : List Nat} {E : Nat → Option Int32} (h : qr_ok aC h0 qr tx txb bv t E) (x : List Value) : qe_ok aC (jj_up h0 qr (.inr (5, x))) bv E := by
  obtain ⟨-, hE, -, fs, hq⟩ := h
  rcases hE with hE | ⟨be, va, pr, nm, V, B, h1, h2, h3, h4, h5⟩
  · exact Or.inl hE
  · refine Or.inr ⟨be, va, pr, nm, V, B, h1, ?_, ?_, ?_, h5⟩
    · rw [jj_up_n (fun q => by rw [q, hq] at h2; cases h2)]
      exact h2
    · rw [jj_up_n (fun q => by rw [q, hq] at h3; cases h3)]
      exact h3
    · rw [jj_up_n (fun q => by rw [q, hq] at h4; cases h4)]
      exact h4
/-- what a reading of values says: either something was wrong, or it is this -/
def qr_S (t : List Nat) (o : Option (List Nat × Int32 × Bool)) (wr : Bool) (p' : Nat) (wr' fl' : Bool) (v : Int32) : Prop := (wr' = true ∧ (wr = true ∨ o = none)) ∨ (wr = false ∧ wr' = false ∧ o = some (t.drop p', v, fl'))
def qr_T (t : List Nat) (o : Option (List Nat × Nat)) (wr : Bool) (p' : Nat) (wr' : Bool) (v : Int32) : Prop := (wr' = true ∧ (wr = true ∨ o = none)) ∨ (wr = false ∧ wr' = false ∧ ∃ a, o = some (t.drop p', a) ∧ v = nI a ∧ a ≤ 2)
/-- the next place -/
def qr_n (t : List Nat) (p : Nat) : Nat := if p < t.length then p + 1 else p
theorem qr_n_le {t : List Nat} {p : Nat} (h : p ≤ t.length) : p ≤ qr_n t p ∧ qr_n t p ≤ t.length := by
  unfold qr_n
  split <;> omega
theorem qr_n_t {t : List Nat} {p : Nat} (h : p ≤ t.length) : t.drop (qr_n t p) = (t.drop p).tail := by
  unfold qr_n
  split
  · rw [List.tail_drop]
  · rw [List.drop_eq_nil_of_le (by omega)]
    rfl
section QRW
variable {l : Launch} {D : va_G} {aC : Nat → ClassId} {base : Nat} {h0 : jjHp} {qr tx txb : Nat} {bv : Value} {t : List Nat} {E : Nat → Option Int32} {p0 : Nat} {wr fl : Bool}
theorem qr_step (hq : qr_ok aC h0 qr tx txb bv t E) (hp0 : p0 ≤ t.length) : jj_Ct l D aC base yn_QR_step yb_QR_step 1 none 4 0 0 [.ref qr] (qr_w h0 qr tx bv t p0 wr fl) (fun q h' => q = none ∧ h' = qr_w h0 qr tx bv t (qr_n t p0) wr fl) := by
  have hlen := hq.2.2.1
  have hch := hq.1.lt
  have hs := fun x => hq.st x
  have hrc := fun x => (hq.st x).recv
  refine jj_start (tb := tb_QR_step) (by decide) tg_QR_step (Nat.le_of_ble_eq_true rfl) ?_
  intro p e s m args below meth cc C
  -- here
  have fin : ∀ (p1 : Nat) (c0 : Int32), p1 = qr_n t p0 → p1 ≤ t.length → jj_J p l e (jj_rm 4 0 0) s m args below meth cc D base 1 (MQ below (jj_Q D base (fun q h' => q = none ∧ h' = qr_w h0 qr tx bv t (qr_n t p0) wr fl)) args s 0 0 (jj_A base)) 24 [(0, .ref qr)] [] (jj_up h0 qr (.inr (5, [.ref tx, bv, .int (nI p1), .int (jb_I wr), .int c0, .int (jb_I fl)]))) 0 0 := by
    intro p1 c0 hp1 hle
    have ho : (jj_up h0 qr (.inr (5, [.ref tx, bv, .int (nI p1), .int (jb_I wr), .int c0, .int (jb_I fl)]))) qr = some (.inr (5, [.ref tx, bv, .int (nI p1), .int (jb_I wr), .int c0, .int (jb_I fl)])) := jj_up_s
    have hs1 := hs [.ref tx, bv, .int (nI p1), .int (jb_I wr), .int c0, .int (jb_I fl)]
    obtain ⟨fs, hr1⟩ := hrc [.ref tx, bv, .int (nI p1), .int (jb_I wr), .int c0, .int (jb_I fl)]
    generalize hh1 : jj_up h0 qr (.inr (5, [.ref tx, bv, .int (nI p1), .int (jb_I wr), .int c0, .int (jb_I fl)])) = h1 at ho hs1 hr1 ⊢
    have last : ∀ c : Nat, c = t.getD p1 0 → jj_J p l e (jj_rm 4 0 0) s m args below meth cc D base 1 (MQ below (jj_Q D base (fun q h' => q = none ∧ h' = qr_w h0 qr tx bv t (qr_n t p0) wr fl)) args s 0 0 (jj_A base)) 54 [(0, .ref qr)] [.int (nI c), .ref qr] h1 0 0 := by
      intro c hc
      have hc128 := hch p1
      rw [← hc] at hc128
      refine jj_putf C rfl fl_QR_40 ho (congrArg Value.int (ky_char c hc128)) (ky_fitc c hc128) (Nat.le_of_ble_eq_true rfl) ?_
      exact jj_vret C rfl rfl (Nat.le_of_ble_eq_true rfl) (Nat.le_of_ble_eq_true rfl) ⟨rfl, by rw [← hh1, jj_up_up]; unfold qr_w; rw [← hp1, hc]; rfl⟩
    refine jj_go C 2 rfl ?_
    refine jj_getf C rfl fl_QR_9 ho rfl ?_
    refine jj_go C 1 rfl ?_
    refine jj_getf C rfl fl_QR_22 ho rfl ?_
    refine jj_callV C rfl ml_QR_48 wd_364 hr1 rfl se_ST_ST_length (kt_ST_length hs1) (rest := [.int (nI p1), .ref qr]) rfl rfl ⟨Nat.le_of_ble_eq_true rfl, Nat.le_of_ble_eq_true rfl⟩ (Nat.le_of_ble_eq_true rfl) (Nat.le_of_ble_eq_true rfl) (Nat.le_of_ble_eq_true rfl) ?_
    rintro q9 h9 ⟨rfl, hh9⟩
    rw [hh9]
    refine jj_if C rfl (fun z => ?_) (fun z => ?_)
    · have g := (nI_leI (a := t.length) (b := p1) (by omega) (by omega)).mp z
      refine jj_go C 1 rfl ?_
      exact last 0 (px_getD_ge (by omega)).symm
    · have g : p1 < t.length := Nat.not_le.mp (fun q => z (nI_le q (by omega)))
      refine jj_go C 1 rfl ?_
      refine jj_getf C rfl fl_QR_22 ho rfl ?_
      refine jj_go C 1 rfl ?_
      refine jj_getf C rfl fl_QR_9 ho rfl ?_
      refine jj_callV C rfl ml_QR_36 wd_372 hr1 rfl se_ST_ST_charAt (kt_ST_charAt (i := p1) hs1 g (by omega)) (rest := [.ref qr]) rfl rfl ⟨Nat.le_of_ble_eq_true rfl, Nat.le_of_ble_eq_true rfl⟩ (Nat.le_of_ble_eq_true rfl) (Nat.le_of_ble_eq_true rfl) (Nat.le_of_ble_eq_true rfl) ?_
      rintro q9 h9 ⟨rfl, hh9⟩
      rw [hh9]
      refine jj_go C 1 rfl ?_
      exact last _ rfl
  have ho : qr_w h0 qr tx bv t p0 wr fl qr = some (.inr (5, qr_fs tx bv t p0 wr fl)) := qr_w_o
  have hs0 := hs (qr_fs tx bv t p0 wr fl)
  obtain ⟨fs, hr0⟩ := hrc (qr_fs tx bv t p0 wr fl)
  refine jj_go C 1 rfl ?_
  refine jj_getf C rfl fl_QR_9 ho rfl ?_
  refine jj_go C 1 rfl ?_
  refine jj_getf C rfl fl_QR_22 ho rfl ?_
  refine jj_callV C rfl ml_QR_48 wd_364 hr0 rfl se_ST_ST_length (kt_ST_length hs0) (rest := [.int (nI p0)]) rfl rfl ⟨Nat.le_of_ble_eq_true rfl, Nat.le_of_ble_eq_true rfl⟩ (Nat.le_of_ble_eq_true rfl) (Nat.le_of_ble_eq_true rfl) (Nat.le_of_ble_eq_true rfl) ?_
  rintro q9 h9 ⟨rfl, hh9⟩
  rw [hh9]
  refine jj_if C rfl (fun z => ?_) (fun z => ?_)
  · have g := (nI_leI (a := t.length) (b := p0) (by omega) (by omega)).mp z
    exact fin p0 _ (by unfold qr_n; rw [if_neg (by omega)]) hp0
  · have g : p0 < t.length := Nat.not_le.mp (fun q => z (nI_le q (by omega)))
    refine jj_go C 2 rfl ?_
    refine jj_getf C rfl fl_QR_9 ho rfl ?_
    refine jj_go C 2 rfl ?_
    refine jj_top (nI_1 p0) ?_
    refine jj_putf C rfl fl_QR_9 ho rfl rfl (Nat.le_of_ble_eq_true rfl) ?_
    refine jj_eq (h' := jj_up h0 qr (.inr (5, [.ref tx, bv, .int (nI (p0 + 1)), .int (jb_I wr), .int (nI (t.getD p0 0)), .int (jb_I fl)]))) rfl rfl rfl (by unfold qr_w; rw [jj_up_up]; rfl) ?_
    exact fin (p0 + 1) _ (by unfold qr_n; rw [if_pos g]) g
theorem qr_unit (hq : qr_ok aC h0 qr tx txb bv t E) (hp0 : p0 ≤ t.length) : jj_Ct l D aC base yn_QR_unit yb_QR_unit 3 (some .int) 5 0 0 [.ref qr] (qr_w h0 qr tx bv t p0 wr fl) (fun q h' => ∃ p' wr' fl' v, q = some (.int v) ∧ h' = qr_w h0 qr tx bv t p' wr' fl' ∧ p0 ≤ p' ∧ p' ≤ t.length ∧ qr_S t ((qx_un E (t.drop p0)).map (fun r => (r.1, r.2.1, fl || r.2.2))) wr p' wr' fl' v) := by
  have hlen := hq.2.2.1
  have hch := hq.1.lt
  have hc := hch p0
  have hhd := qd_hd (t := t) (p := p0)
  refine jj_start (tb := tb_QR_unit) (by decide) tg_QR_unit (Nat.le_of_ble_eq_true rfl) ?_
  intro p e s m args below meth cc C
  have ho := qr_w_o (h0 := h0) (qr := qr) (tx := tx) (bv := bv) (t := t) (p := p0) (wr := wr) (fl := fl)
  -- numbers
  have num : ¬ (97 ≤ t.getD p0 0 ∧ t.getD p0 0 ≤ 101) → jj_J p l e (jj_rm 5 0 0) s m args below meth cc D base 3 (MQ below (jj_Q D base (fun q h' => ∃ p' wr' fl' v, q = some (.int v) ∧ h' = qr_w h0 qr tx bv t p' wr' fl' ∧ p0 ≤ p' ∧ p' ≤ t.length ∧ qr_S t ((qx_un E (t.drop p0)).map (fun r => (r.1, r.2.1, fl || r.2.2))) wr p' wr' fl' v)) args s 0 0 (jj_A base)) 66 [(0, .ref qr)] [] (qr_w h0 qr tx bv t p0 wr fl) 0 0 := by
    intro hno
    have hun : qx_un E (t.drop p0) = if pc_dg (t.getD p0 0) = true then some ((qx_nu 4 (t.drop p0) 0).1, (qx_nu 4 (t.drop p0) 0).2, false) else none := by
      unfold qx_un
      rw [hhd, if_neg hno]
    have loop : ∀ (k p1 : Nat) (v v2 : Int32) (wr1 : Bool), v2 = nI (4 - k) → k ≤ 4 → p0 ≤ p1 → p1 ≤ t.length → qx_nu k (t.drop p1) v = qx_nu 4 (t.drop p0) 0 → wr1 = (wr || !pc_dg (t.getD p0 0)) → jj_J p l e (jj_rm 5 0 0) s m args below meth cc D base 3 (MQ below (jj_Q D base (fun q h' => ∃ p' wr' fl' v, q = some (.int v) ∧ h' = qr_w h0 qr tx bv t p' wr' fl' ∧ p0 ≤ p' ∧ p' ≤ t.length ∧ qr_S t ((qx_un E (t.drop p0)).map (fun r => (r.1, r.2.1, fl || r.2.2))) wr p' wr' fl' v)) args s 0 0 (jj_A base)) 104 [(0, .ref qr), (1, .int v), (2, .int v2)] [] (qr_w h0 qr tx bv t p1 wr1 fl) 0 0 := by
      intro k
      induction k with
      | zero =>
        intro p1 v v2 wr1 hv2 hk h1 h2 hG hw
        have hG : (t.drop p1, v) = qx_nu 4 (t.drop p0) 0 := hG
        refine jj_go C 2 rfl ?_
        refine jj_if C rfl (fun _ => ?_) (fun z => absurd (by rw [hv2]; decide) z)
        refine jj_go C 1 rfl ?_
        refine jj_iret C rfl rfl rfl (Nat.le_of_ble_eq_true rfl) (Nat.le_of_ble_eq_true rfl) ⟨p1, wr1, fl, v, rfl, rfl, h1, h2, ?_⟩
        rw [hun, ← hG]
        cases hd : pc_dg (t.getD p0 0) with
        | false =>
          rw [hd] at hw
          exact Or.inl ⟨by rw [hw]; simp, Or.inr rfl⟩
        | true =>
          rw [hd] at hw
          cases wr with
          | true => exact Or.inl ⟨by rw [hw]; rfl, Or.inl rfl⟩
          | false => exact Or.inr ⟨rfl, by rw [hw]; rfl, by simp⟩
      | succ k ih =>
        intro p1 v v2 wr1 hv2 hk h1 h2 hG hw
        have hc1 := hch p1
        have ho1 := qr_w_o (h0 := h0) (qr := qr) (tx := tx) (bv := bv) (t := t) (p := p1) (wr := wr1) (fl := fl)
        have hG : (if pc_dg ((t.drop p1).headD 0) = true then qx_nu k (t.drop p1).tail (v * 10 + (nI ((t.drop p1).headD 0) - 48)) else (t.drop p1, v)) = qx_nu 4 (t.drop p0) 0 := hG
        rw [qd_hd] at hG
        have stop : pc_dg (t.getD p1 0) = false → jj_J p l e (jj_rm 5 0 0) s m args below meth cc D base 3 (MQ below (jj_Q D base (fun q h' => ∃ p' wr' fl' v, q = some (.int v) ∧ h' = qr_w h0 qr tx bv t p' wr' fl' ∧ p0 ≤ p' ∧ p' ≤ t.length ∧ qr_S t ((qx_un E (t.drop p0)).map (fun r => (r.1, r.2.1, fl || r.2.2))) wr p' wr' fl' v)) args s 0 0 (jj_A base)) 150 [(0, .ref qr), (1, .int v), (2, .int v2)] [] (qr_w h0 qr tx bv t p1 wr1 fl) 0 0 := by
          intro hd1
          rw [hd1] at hG
          have hG : (t.drop p1, v) = qx_nu 4 (t.drop p0) 0 := hG
          refine jj_go C 1 rfl ?_
          refine jj_iret C rfl rfl rfl (Nat.le_of_ble_eq_true rfl) (Nat.le_of_ble_eq_true rfl) ⟨p1, wr1, fl, v, rfl, rfl, h1, h2, ?_⟩
          rw [hun, ← hG]
          cases hd : pc_dg (t.getD p0 0) with
          | false =>
            rw [hd] at hw
            exact Or.inl ⟨by rw [hw]; simp, Or.inr rfl⟩
          | true =>
            rw [hd] at hw
            cases wr with
            | true => exact Or.inl ⟨by rw [hw]; rfl, Or.inl rfl⟩
            | false => exact Or.inr ⟨rfl, by rw [hw]; rfl, by simp⟩
        refine jj_go C 2 rfl ?_
        refine jj_if C rfl (fun z => absurd z (by rw [hv2]; exact nI_ge (b := 4) (by omega) (by decide))) (fun _ => ?_)
        refine jj_go C 1 rfl ?_
        refine jj_getf C rfl fl_QR_40 ho1 rfl ?_
        refine jj_go C 1 rfl ?_
        refine jj_if C rfl (fun z => ?_) (fun z => ?_)
        · have g := (nI_ltI (a := t.getD p1 0) (b := 48) (by omega) (by decide)).mp z
          exact stop (pb_f pc_dg_i (by omega))
        · have g : ¬ t.getD p1 0 < 48 := fun q => z ((nI_ltI (a := t.getD p1 0) (b := 48) (by omega) (by decide)).mpr q)
          refine jj_go C 1 rfl ?_
          refine jj_getf C rfl fl_QR_40 ho1 rfl ?_
          refine jj_go C 1 rfl ?_
          refine jj_if C rfl (fun z2 => ?_) (fun z2 => ?_)
          · have g2 := (nI_ltI (a := 57) (b := t.getD p1 0) (by decide) (by omega)).mp z2
            exact stop (pb_f pc_dg_i (by omega))
          · have g2 : ¬ 57 < t.getD p1 0 := fun q => z2 ((nI_ltI (a := 57) (b := t.getD p1 0) (by decide) (by omega)).mpr q)
            have hd1 : pc_dg (t.getD p1 0) = true := pc_dg_i.mpr ⟨by omega, by omega⟩
            rw [if_pos hd1] at hG
            refine jj_go C 4 rfl ?_
            refine jj_getf C rfl fl_QR_40 ho1 rfl ?_
            refine jj_go C 5 rfl ?_
            refine jj_callV C rfl ml_QR_51 wd_596 ho1 rfl se_QR_QR_step (qr_step hq h2) (rest := []) rfl rfl ⟨Nat.le_of_ble_eq_true rfl, Nat.le_of_ble_eq_true rfl⟩ (Nat.le_of_ble_eq_true rfl) (Nat.le_of_ble_eq_true rfl) (Nat.le_of_ble_eq_true rfl) ?_
            rintro q9 h9 ⟨rfl, hh9⟩
            rw [hh9]
            refine jj_go C 2 rfl ?_
            have hn := qr_n_le (t := t) (p := p1) h2
            refine ih (qr_n t p1) _ (v2 + 1) wr1 (by rw [hv2, nI_1]; congr 1; omega) (by omega) (by omega) hn.2 ?_ hw
            rw [qr_n_t h2]
            exact hG
    have set : ∀ wr1 : Bool, wr1 = (wr || !pc_dg (t.getD p0 0)) → jj_J p l e (jj_rm 5 0 0) s m args below meth cc D base 3 (MQ below (jj_Q D base (fun q h' => ∃ p' wr' fl' v, q = some (.int v) ∧ h' = qr_w h0 qr tx bv t p' wr' fl' ∧ p0 ≤ p' ∧ p' ≤ t.length ∧ qr_S t ((qx_un E (t.drop p0)).map (fun r => (r.1, r.2.1, fl || r.2.2))) wr p' wr' fl' v)) args s 0 0 (jj_A base)) 97 [(0, .ref qr)] [.int (jb_I wr1), .ref qr] (qr_w h0 qr tx bv t p0 wr fl) 0 0 := by
      intro wr1 hw
      refine jj_putf C rfl fl_QR_15 ho jb_nar jb_fit (Nat.le_of_ble_eq_true rfl) ?_
      refine jj_eq (h' := qr_w h0 qr tx bv t p0 wr1 fl) rfl rfl rfl (by unfold qr_w; rw [jj_up_up]; rfl) ?_
      refine jj_go C 4 rfl ?_
      exact loop 4 p0 0 0 wr1 nI_0.symm (Nat.le_refl _) (Nat.le_refl _) hp0 rfl hw
    refine jj_go C 2 rfl ?_
    refine jj_getf C rfl fl_QR_15 ho rfl ?_
    cases hwr : wr with
    | true =>
      rw [hwr] at set
      refine jj_if C rfl (fun z => absurd z (by decide)) (fun _ => ?_)
      refine jj_go C 2 rfl ?_
      exact set true rfl
    | false =>
      rw [hwr] at set
      have ho2 := ho
      rw [hwr] at ho2
      refine jj_if C rfl (fun _ => ?_) (fun z => absurd rfl z)
      refine jj_go C 1 rfl ?_
      refine jj_getf C rfl fl_QR_40 ho2 rfl ?_
      refine jj_go C 1 rfl ?_
      refine jj_if C rfl (fun z => ?_) (fun z => ?_)
      · have g := (nI_ltI (a := t.getD p0 0) (b := 48) (by omega) (by decide)).mp z
        refine jj_go C 2 rfl ?_
        exact set true (by rw [pb_f pc_dg_i (by omega)]; rfl)
      · have g : ¬ t.getD p0 0 < 48 := fun q => z ((nI_ltI (a := t.getD p0 0) (b := 48) (by omega) (by decide)).mpr q)
        refine jj_go C 1 rfl ?_
        refine jj_getf C rfl fl_QR_40 ho2 rfl ?_
        refine jj_go C 1 rfl ?_
        refine jj_if C rfl (fun z2 => ?_) (fun z2 => ?_)
        · have g2 := (nI_leI (a := t.getD p0 0) (b := 57) (by omega) (by decide)).mp z2
          refine jj_go C 1 rfl ?_
          exact set false (by rw [pc_dg_i.mpr ⟨by omega, g2⟩]; rfl)
        · have g2 : ¬ t.getD p0 0 ≤ 57 := fun q => z2 ((nI_leI (a := t.getD p0 0) (b := 57) (by omega) (by decide)).mpr q)
          refine jj_go C 2 rfl ?_
          exact set true (by rw [pb_f pc_dg_i (by omega)]; rfl)
  refine jj_go C 1 rfl ?_
  refine jj_getf C rfl fl_QR_40 ho rfl ?_
  refine jj_go C 1 rfl ?_
  refine jj_if C rfl (fun z => ?_) (fun z => ?_)
  · have g := (nI_ltI (a := t.getD p0 0) (b := 97) (by omega) (by decide)).mp z
    exact num (by omega)
  · have g : ¬ t.getD p0 0 < 97 := fun q => z ((nI_ltI (a := t.getD p0 0) (b := 97) (by omega) (by decide)).mpr q)
    refine jj_go C 1 rfl ?_
    refine jj_getf C rfl fl_QR_40 ho rfl ?_
    refine jj_go C 1 rfl ?_
    refine jj_if C rfl (fun z2 => ?_) (fun z2 => ?_)
    · have g2 := (nI_leI (a := 102) (b := t.getD p0 0) (by decide) (by omega)).mp z2
      exact num (by omega)
    · have g2 : ¬ 102 ≤ t.getD p0 0 := fun q => z2 ((nI_leI (a := 102) (b := t.getD p0 0) (by decide) (by omega)).mpr q)
      have hun : qx_un E (t.drop p0) = some ((t.drop p0).tail, (E (t.getD p0 0 - 97)).getD 0, (E (t.getD p0 0 - 97)).isNone) := by
        unfold qx_un
        rw [hhd, if_pos (by omega)]
      have hi5 : t.getD p0 0 - 97 < 5 := by omega
      generalize hi : t.getD p0 0 - 97 = i at hun hi5
      have hn := qr_n_le (t := t) (p := p0) hp0
      have hqe := hq.qe (qr_fs tx bv t (qr_n t p0) wr fl)
      refine jj_go C 1 rfl ?_
      refine jj_getf C rfl fl_QR_40 ho rfl ?_
      refine jj_go C 2 rfl ?_
      refine jj_top (show nI (t.getD p0 0) - 97 = nI i from (pk_sub (b := 97) (by omega)).trans (by rw [hi])) ?_
      refine jj_go C 2 rfl ?_
      refine jj_callV C rfl ml_QR_51 wd_596 ho rfl se_QR_QR_step (qr_step hq hp0) (rest := []) rfl rfl ⟨Nat.le_of_ble_eq_true rfl, Nat.le_of_ble_eq_true rfl⟩ (Nat.le_of_ble_eq_true rfl) (Nat.le_of_ble_eq_true rfl) (Nat.le_of_ble_eq_true rfl) ?_
      rintro q9 h9 ⟨rfl, hh9⟩
      rw [hh9]
      have ho1 := qr_w_o (h0 := h0) (qr := qr) (tx := tx) (bv := bv) (t := t) (p := qr_n t p0) (wr := wr) (fl := fl)
      have res : ∀ (v : Int32) (fl' : Bool), (E i).getD 0 = v → (fl || (E i).isNone) = fl' → qr_S t ((qx_un E (t.drop p0)).map (fun r => (r.1, r.2.1, fl || r.2.2))) wr (qr_n t p0) wr fl' v := by
        intro v fl' hv hfl
        rw [hun]
        cases wr with
        | true => exact Or.inl ⟨rfl, Or.inl rfl⟩
        | false => exact Or.inr ⟨rfl, rfl, by rw [qr_n_t hp0, ← hv, ← hfl]; rfl⟩
      have fails : E i = none → jj_J p l e (jj_rm 5 0 0) s m args below meth cc D base 3 (MQ below (jj_Q D base (fun q h' => ∃ p' wr' fl' v, q = some (.int v) ∧ h' = qr_w h0 qr tx bv t p' wr' fl' ∧ p0 ≤ p' ∧ p' ≤ t.length ∧ qr_S t ((qx_un E (t.drop p0)).map (fun r => (r.1, r.2.1, fl || r.2.2))) wr p' wr' fl' v)) args s 0 0 (jj_A base)) 59 [(0, .ref qr), (1, .int (nI i))] [] (qr_w h0 qr tx bv t (qr_n t p0) wr fl) 0 0 := by
        intro hE
        refine jj_go C 2 rfl ?_
        refine jj_putf C rfl fl_QR_19 ho1 rfl rfl (Nat.le_of_ble_eq_true rfl) ?_
        refine jj_eq (h' := qr_w h0 qr tx bv t (qr_n t p0) wr true) rfl rfl rfl (by unfold qr_w; rw [jj_up_up]; rfl) ?_
        refine jj_go C 1 rfl ?_
        exact jj_iret C rfl rfl rfl (Nat.le_of_ble_eq_true rfl) (Nat.le_of_ble_eq_true rfl) ⟨qr_n t p0, wr, true, 0, rfl, rfl, hn.1, hn.2, res 0 true (by rw [hE]; rfl) (by rw [hE]; simp)⟩
      refine jj_go C 1 rfl ?_
      refine jj_getf C rfl fl_QR_26 ho1 rfl ?_
      rcases hqe with ⟨hbv, hE⟩ | ⟨be, va, pr, nm, V, B, hbv, hb1, hb2, hb3, hE⟩
      · subst hbv
        refine jj_go C 1 rfl ?_
        exact fails (hE i hi5)
      · subst hbv
        have hb1 : qr_w h0 qr tx (.ref be) t (qr_n t p0) wr fl be = some (.inr (1, [nm, .ref va, .ref pr])) := hb1
        have hb2 : qr_w h0 qr tx (.ref be) t (qr_n t p0) wr fl va = some (.inl (aC 0, 5, .inl V)) := hb2
        have hb3 : qr_w h0 qr tx (.ref be) t (qr_n t p0) wr fl pr = some (.inl (aC 1, 5, .inl B)) := hb3
        refine jj_go C 2 rfl ?_
        refine jj_getf C rfl fl_QR_26 ho1 rfl ?_
        refine jj_getf C rfl fl_QR_77 hb1 rfl ?_
        refine jj_go C 1 rfl ?_
        refine jj_zald C (n := 5) (f := B) rfl hb3 rfl hi5 (by decide) ?_
        refine jj_if C rfl (fun z => ?_) (fun z => ?_)
        · exact fails (by rw [hE i hi5, if_pos z])
        · refine jj_go C 1 rfl ?_
          refine jj_getf C rfl fl_QR_26 ho1 rfl ?_
          refine jj_getf C rfl fl_QR_83 hb1 rfl ?_
          refine jj_go C 1 rfl ?_
          refine jj_iald C (n := 5) (f := V) rfl hb2 rfl hi5 (by decide) ?_
          have hEi : E i = some (V i) := by rw [hE i hi5, if_neg z]
          exact jj_iret C rfl rfl rfl (Nat.le_of_ble_eq_true rfl) (Nat.le_of_ble_eq_true rfl) ⟨qr_n t p0, wr, fl, V i, rfl, rfl, hn.1, hn.2, res (V i) fl (by rw [hEi]; rfl) (by rw [hEi]; simp)⟩
end QRW
