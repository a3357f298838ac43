/-! The reference: enter, settle, looked, truth, check -/
def qm_g (sg : Nat → Nat → Int32) (F1 F2 F3 F4 : Nat → Int32) : Nat → Nat → Int32 := va_up (va_up (va_up (va_up sg 23 F1) 24 F2) 25 F3) 26 F4
theorem qm_g_self {sg : Nat → Nat → Int32} : qm_g sg (sg 23) (sg 24) (sg 25) (sg 26) = sg := by
  funext k
  unfold qm_g va_up
  by_cases h1 : k = 26
  · subst h1; rfl
  by_cases h2 : k = 25
  · subst h2; rfl
  by_cases h3 : k = 24
  · subst h3; rfl
  by_cases h4 : k = 23
  · subst h4; rfl
  simp [h1, h2, h3, h4]
section QG
variable {sg : Nat → Nat → Int32} {F1 F2 F3 F4 G : Nat → Int32}
theorem qm_g_23 : va_up (qm_g sg F1 F2 F3 F4) 23 G = qm_g sg G F2 F3 F4 := by
  funext k
  unfold qm_g va_up
  by_cases h4 : k = 23
  · subst h4; rfl
  simp [h4]
theorem qm_g_24 : va_up (qm_g sg F1 F2 F3 F4) 24 G = qm_g sg F1 G F3 F4 := by
  funext k
  unfold qm_g va_up
  by_cases h4 : k = 24
  · subst h4; rfl
  simp [h4]
theorem qm_g_25 : va_up (qm_g sg F1 F2 F3 F4) 25 G = qm_g sg F1 F2 G F4 := by
  funext k
  unfold qm_g va_up
  by_cases h4 : k = 25
  · subst h4; rfl
  simp [h4]
theorem qm_g_26 : va_up (qm_g sg F1 F2 F3 F4) 26 G = qm_g sg F1 F2 F3 G := by
  funext k
  unfold qm_g va_up
  by_cases h4 : k = 26
  · subst h4; rfl
  simp [h4]
end QG
/-- the flags up to level w -/
def qm_h (w : Nat) (F : Nat → Int32) (f : Nat → Bool) : Prop := ∀ i, i ≤ w → F i = jb_I (f i)
theorem qm_h_u {w : Nat} {F : Nat → Int32} {f : Nat → Bool} {k : Nat} {b : Bool} (h : qm_h w F f) : qm_h w (upd F k (jb_I b)) (qm_u f k b) := by
  intro i hi
  unfold upd qm_u
  by_cases hk : i = k
  · rw [if_pos hk, if_pos hk]
  · rw [if_neg hk, if_neg hk]
    exact h i hi
theorem qm_h_s {w : Nat} {F : Nat → Int32} {f : Nat → Bool} {b : Bool} (h : qm_h w F f) : qm_h (w + 1) (upd F (w + 1) (jb_I b)) (qm_u f (w + 1) b) := by
  intro i hi
  unfold upd qm_u
  by_cases hk : i = w + 1
  · rw [if_pos hk, if_pos hk]
  · rw [if_neg hk, if_neg hk]
    exact h i (by omega)
theorem qm_h_d {w : Nat} {F : Nat → Int32} {f : Nat → Bool} (h : qm_h (w + 1) F f) : qm_h w F f := fun i hi => h i (by omega)
section MTR
variable {l : Launch} {D : va_G} {aC : Nat → ClassId} {base : Nat} {h : jjHp} {y : Nat} {ad : Nat → Nat} {rh : Nat → List Nat} {sg : Nat → Nat → Int32} {mu : Nat → Int64} {io : Nat → Int32} {F1 F2 F3 F4 : Nat → Int32}
theorem rr_enter {w : Nat} {lk : Bool} (hR : RR aC h y ad rh (qm_g sg F1 F2 F3 F4) mu io) (hw : w < 12) : jj_Ct l D aC base yn_MO_enter yb_MO_enter 3 none 0 0 0 [.ref y, .int (nI w), .int (jb_I lk)] h (fun q h' => q = none ∧ RR aC h' y ad rh (qm_g sg (upd F1 w (jb_I lk)) (upd F2 w (jb_I false)) (upd F3 w (jb_I true)) (upd F4 w (jb_I false))) mu io ∧ jj_fr (rr_S y ad) h h') := by
  have hR0 := hR
  have hf0 : jj_fr (rr_S y ad) h h := jj_fr.rf
  refine jj_start (tb := tb_MO_enter) (by decide) tg_MO_enter (Nat.le_of_ble_eq_true rfl) ?_
  intro p e s m args below meth cc C
  refine jj_go C 1 rfl ?_
  refine jj_getf C rfl fl_MO_71 hR.oy rfl ?_
  refine jj_go C 2 rfl ?_
  refine jj_zast C (n := 12) (f := F1) (j := w) rfl (hR0.oc (k := 23) (by decide) (by decide) (by decide)) rfl (by omega) (by decide) ?_
  have hR1 := hR0.set (k := 23) (by decide) (by decide) (by decide) (upd F1 w (vp_nar .boolean (jb_I lk)))
  have hf1 := hf0.up (a := ad 23) (x := .inl (aC (rr_ty 23), rr_len 23, .inl (upd F1 w (vp_nar .boolean (jb_I lk))))) (Or.inl (rr_S_k (by decide)))
  generalize hh1 : (jj_up h (ad 23) (.inl (aC (rr_ty 23), rr_len 23, .inl (upd F1 w (vp_nar .boolean (jb_I lk)))))) = h1 at hR1 hf1
  refine jj_eq (h' := h1) rfl rfl rfl hh1 ?_
  rw [jb_nar', qm_g_23] at hR1
  refine jj_go C 1 rfl ?_
  refine jj_getf C rfl fl_MO_74 hR1.oy rfl ?_
  refine jj_go C 2 rfl ?_
  refine jj_zast C (n := 12) (f := F2) (j := w) rfl (hR1.oc (k := 24) (by decide) (by decide) (by decide)) rfl (by omega) (by decide) ?_
  have hR2 := hR1.set (k := 24) (by decide) (by decide) (by decide) (upd F2 w (jb_I false))
  have hf2 := hf1.up (a := ad 24) (x := .inl (aC (rr_ty 24), rr_len 24, .inl (upd F2 w (jb_I false)))) (Or.inl (rr_S_k (by decide)))
  generalize hh2 : (jj_up h1 (ad 24) (.inl (aC (rr_ty 24), rr_len 24, .inl (upd F2 w (jb_I false))))) = h2 at hR2 hf2
  refine jj_eq (h' := h2) rfl rfl rfl hh2 ?_
  rw [qm_g_24] at hR2
  refine jj_go C 1 rfl ?_
  refine jj_getf C rfl fl_MO_77 hR2.oy rfl ?_
  refine jj_go C 2 rfl ?_
  refine jj_zast C (n := 12) (f := F3) (j := w) rfl (hR2.oc (k := 25) (by decide) (by decide) (by decide)) rfl (by omega) (by decide) ?_
  have hR3 := hR2.set (k := 25) (by decide) (by decide) (by decide) (upd F3 w (jb_I true))
  have hf3 := hf2.up (a := ad 25) (x := .inl (aC (rr_ty 25), rr_len 25, .inl (upd F3 w (jb_I true)))) (Or.inl (rr_S_k (by decide)))
  generalize hh3 : (jj_up h2 (ad 25) (.inl (aC (rr_ty 25), rr_len 25, .inl (upd F3 w (jb_I true))))) = h3 at hR3 hf3
  refine jj_eq (h' := h3) rfl rfl rfl hh3 ?_
  rw [qm_g_25] at hR3
  refine jj_go C 1 rfl ?_
  refine jj_getf C rfl fl_MO_80 hR3.oy rfl ?_
  refine jj_go C 2 rfl ?_
  refine jj_zast C (n := 12) (f := F4) (j := w) rfl (hR3.oc (k := 26) (by decide) (by decide) (by decide)) rfl (by omega) (by decide) ?_
  have hR4 := hR3.set (k := 26) (by decide) (by decide) (by decide) (upd F4 w (jb_I false))
  have hf4 := hf3.up (a := ad 26) (x := .inl (aC (rr_ty 26), rr_len 26, .inl (upd F4 w (jb_I false)))) (Or.inl (rr_S_k (by decide)))
  generalize hh4 : (jj_up h3 (ad 26) (.inl (aC (rr_ty 26), rr_len 26, .inl (upd F4 w (jb_I false))))) = h4 at hR4 hf4
  refine jj_eq (h' := h4) rfl rfl rfl hh4 ?_
  rw [qm_g_26] at hR4
  exact jj_vret C rfl rfl (Nat.le_of_ble_eq_true rfl) (Nat.le_of_ble_eq_true rfl) ⟨rfl, hR4, hf4⟩
theorem rr_settle {w : Nat} {rr b t : Bool} (hR : RR aC h y ad rh (qm_g sg F1 F2 F3 F4) mu io) (hw : w < 12) (h3 : F3 w = jb_I b) (h4 : F4 w = jb_I t) : jj_Ct l D aC base yn_MO_settle yb_MO_settle 3 none 0 0 0 [.ref y, .int (nI w), .int (jb_I rr)] h (fun q h' => q = none ∧ RR aC h' y ad rh (qm_g sg F1 F2 (upd F3 w (jb_I (b && (rr != t)))) (upd F4 w (jb_I false))) mu io ∧ jj_fr (rr_S y ad) h h') := by
  have hR0 := hR
  have hf0 : jj_fr (rr_S y ad) h h := jj_fr.rf
  refine jj_start (tb := tb_MO_settle) (by decide) tg_MO_settle (Nat.le_of_ble_eq_true rfl) ?_
  intro p e s m args below meth cc C
  have fin : ∀ v : Bool, (b && (rr != t)) = v → jj_J p l e (jj_rm 0 0 0) s m args below meth cc D base 3 (MQ below (jj_Q D base (fun q h' => q = none ∧ RR aC h' y ad rh (qm_g sg F1 F2 (upd F3 w (jb_I (b && (rr != t)))) (upd F4 w (jb_I false))) mu io ∧ jj_fr (rr_S y ad) h h')) args s 0 0 (jj_A base)) 29 [(0, .ref y), (1, .int (nI w)), (2, .int (jb_I rr))] [.int (jb_I v), .int (nI w), .ref (ad 25)] h 0 0 := by
    intro v hv
    refine jj_zast C (n := 12) (f := F3) (j := w) rfl (hR0.oc (k := 25) (by decide) (by decide) (by decide)) rfl (by omega) (by decide) ?_
    have hR1 := hR0.set (k := 25) (by decide) (by decide) (by decide) (upd F3 w (vp_nar .boolean (jb_I v)))
    have hf1 := hf0.up (a := ad 25) (x := .inl (aC (rr_ty 25), rr_len 25, .inl (upd F3 w (vp_nar .boolean (jb_I v))))) (Or.inl (rr_S_k (by decide)))
    generalize hh1 : (jj_up h (ad 25) (.inl (aC (rr_ty 25), rr_len 25, .inl (upd F3 w (vp_nar .boolean (jb_I v)))))) = h1 at hR1 hf1
    refine jj_eq (h' := h1) rfl rfl rfl hh1 ?_
    rw [jb_nar', qm_g_25] at hR1
    refine jj_go C 1 rfl ?_
    refine jj_getf C rfl fl_MO_80 hR1.oy rfl ?_
    refine jj_go C 2 rfl ?_
    refine jj_zast C (n := 12) (f := F4) (j := w) rfl (hR1.oc (k := 26) (by decide) (by decide) (by decide)) rfl (by omega) (by decide) ?_
    have hR2 := hR1.set (k := 26) (by decide) (by decide) (by decide) (upd F4 w (jb_I false))
    have hf2 := hf1.up (a := ad 26) (x := .inl (aC (rr_ty 26), rr_len 26, .inl (upd F4 w (jb_I false)))) (Or.inl (rr_S_k (by decide)))
    generalize hh2 : (jj_up h1 (ad 26) (.inl (aC (rr_ty 26), rr_len 26, .inl (upd F4 w (jb_I false))))) = h2 at hR2 hf2
    refine jj_eq (h' := h2) rfl rfl rfl hh2 ?_
    rw [qm_g_26] at hR2
    exact jj_vret C rfl rfl (Nat.le_of_ble_eq_true rfl) (Nat.le_of_ble_eq_true rfl) ⟨rfl, by rw [hv]; exact hR2, hf2⟩
  refine jj_go C 1 rfl ?_
  refine jj_getf C rfl fl_MO_77 hR.oy rfl ?_
  refine jj_go C 2 rfl ?_
  refine jj_getf C rfl fl_MO_77 hR.oy rfl ?_
  refine jj_go C 1 rfl ?_
  refine jj_zald C (n := 12) (f := F3) rfl (hR.oc (k := 25) (by decide) (by decide) (by decide)) rfl hw (by decide) ?_
  refine jj_top h3 ?_
  cases b with
  | false =>
    refine jj_if C rfl (fun _ => ?_) (fun z => absurd rfl z)
    refine jj_go C 1 rfl ?_
    exact fin false rfl
  | true =>
    refine jj_if C rfl (fun z => absurd z (by decide)) (fun _ => ?_)
    refine jj_go C 2 rfl ?_
    refine jj_getf C rfl fl_MO_80 hR.oy rfl ?_
    refine jj_go C 1 rfl ?_
    refine jj_zald C (n := 12) (f := F4) rfl (hR.oc (k := 26) (by decide) (by decide) (by decide)) rfl hw (by decide) ?_
    refine jj_top h4 ?_
    cases rr with
    | false =>
      cases t with
      | false =>
        refine jj_if C rfl (fun _ => ?_) (fun z => absurd rfl z)
        refine jj_go C 1 rfl ?_
        exact fin false rfl
      | true =>
        refine jj_if C rfl (fun z => absurd z (by decide)) (fun _ => ?_)
        refine jj_go C 2 rfl ?_
        exact fin true rfl
    | true =>
      cases t with
      | true =>
        refine jj_if C rfl (fun _ => ?_) (fun z => absurd rfl z)
        refine jj_go C 1 rfl ?_
        exact fin false rfl
      | false =>
        refine jj_if C rfl (fun z => absurd z (by decide)) (fun _ => ?_)
        refine jj_go C 2 rfl ?_
        exact fin true rfl
theorem rr_looked {w : Nat} {b1 b2 b3 : Bool} (hR : RR aC h y ad rh (qm_g sg F1 F2 F3 F4) mu io) (hw : w < 12) (h1 : F1 w = jb_I b1) (h2 : F2 w = jb_I b2) (h3 : F3 w = jb_I b3) : jj_Ct l D aC base yn_MO_looked yb_MO_looked 2 (some .boolean) 0 0 0 [.ref y, .int (nI w)] h (fun q h' => q = some (.int (jb_I (b1 && !b2 && b3))) ∧ h' = h) := by
  refine jj_start (tb := tb_MO_looked) (by decide) tg_MO_looked (Nat.le_of_ble_eq_true rfl) ?_
  intro p e s m args below meth cc C
  refine jj_go C 1 rfl ?_
  refine jj_getf C rfl fl_MO_71 hR.oy rfl ?_
  refine jj_go C 1 rfl ?_
  refine jj_zald C (n := 12) (f := F1) rfl (hR.oc (k := 23) (by decide) (by decide) (by decide)) rfl hw (by decide) ?_
  refine jj_top h1 ?_
  cases b1 with
  | false =>
    refine jj_if C rfl (fun _ => ?_) (fun z => absurd rfl z)
    refine jj_go C 1 rfl ?_
    exact jj_iret C rfl rfl rfl (Nat.le_of_ble_eq_true rfl) (Nat.le_of_ble_eq_true rfl) ⟨rfl, rfl⟩
  | true =>
    refine jj_if C rfl (fun z => absurd z (by decide)) (fun _ => ?_)
    refine jj_go C 1 rfl ?_
    refine jj_getf C rfl fl_MO_74 hR.oy rfl ?_
    refine jj_go C 1 rfl ?_
    refine jj_zald C (n := 12) (f := F2) rfl (hR.oc (k := 24) (by decide) (by decide) (by decide)) rfl hw (by decide) ?_
    refine jj_top h2 ?_
    cases b2 with
    | true =>
      refine jj_if C rfl (fun z => absurd z (by decide)) (fun _ => ?_)
      refine jj_go C 1 rfl ?_
      exact jj_iret C rfl rfl rfl (Nat.le_of_ble_eq_true rfl) (Nat.le_of_ble_eq_true rfl) ⟨rfl, rfl⟩
    | false =>
      refine jj_if C rfl (fun _ => ?_) (fun z => absurd rfl z)
      refine jj_go C 1 rfl ?_
      refine jj_getf C rfl fl_MO_77 hR.oy rfl ?_
      refine jj_go C 1 rfl ?_
      refine jj_zald C (n := 12) (f := F3) rfl (hR.oc (k := 25) (by decide) (by decide) (by decide)) rfl hw (by decide) ?_
      refine jj_top h3 ?_
      cases b3 with
      | false =>
        refine jj_if C rfl (fun _ => ?_) (fun z => absurd rfl z)
        refine jj_go C 1 rfl ?_
        exact jj_iret C rfl rfl rfl (Nat.le_of_ble_eq_true rfl) (Nat.le_of_ble_eq_true rfl) ⟨rfl, rfl⟩
      | true =>
        refine jj_if C rfl (fun z => absurd z (by decide)) (fun _ => ?_)
        refine jj_go C 2 rfl ?_
        exact jj_iret C rfl rfl rfl (Nat.le_of_ble_eq_true rfl) (Nat.le_of_ble_eq_true rfl) ⟨rfl, rfl⟩
end MTR
