/-! String.indexOf; isName, patternIn, taken, takenName -/
def px_no (t : List Nat) (k : Nat) : Bool := t.all (fun c => !(c == k))
theorem px_no_i {t : List Nat} {k : Nat} : px_no t k = true ↔ ∀ i, i < t.length → ¬ t.getD i 0 = k := by
  unfold px_no
  rw [List.all_eq_true]
  constructor
  · intro h i hi
    have := h t[i] (List.getElem_mem hi)
    rw [List.getD_eq_getElem?_getD, List.getElem?_eq_getElem hi]
    simpa using this
  · intro h c hc
    obtain ⟨i, hi, rfl⟩ := List.getElem_of_mem hc
    have := h i hi
    rw [List.getD_eq_getElem?_getD, List.getElem?_eq_getElem hi] at this
    simpa using this
theorem ky_i2b : ∀ k, k < 128 → (nI k).toInt8.toInt32 = nI k := by decide +kernel
theorem jj_SEL.mk {C : String} {y : MethodName} (w : Cond.selects C y y ∈ jj_gw) : jj_SEL C y := fun _ _ h => h _ w
section NM
variable {l : Launch} {D : va_G} {aC : Nat → ClassId} {base : Nat} {h : jjHp}
theorem kx_SL_canEncode2 {k : Nat} (hk : k < 256) : jj_Ct l D aC base yn_SL_canEncode2 yb_SL_canEncode2 1 (some .boolean) 0 0 0 [.int (nI k)] h (fun r h' => r = some (.int 1) ∧ h' = h) := by
  refine jj_start (tb := tb_SL_canEncode2) (by decide) tg_SL_canEncode2 (Nat.le_of_ble_eq_true rfl) ?_
  intro p e s m args below meth c C
  refine jj_go C 1 rfl ?_
  refine jj_if C rfl (fun hc => absurd hc (nI_pos (by omega))) (fun _ => ?_)
  refine jj_go C 2 rfl ?_
  refine jj_if C rfl (fun hc => absurd hc (show ¬ nI 255 < nI k from nI_nlt (by omega) (by decide))) (fun _ => ?_)
  refine jj_go C 2 rfl ?_
  exact jj_iret C rfl rfl rfl (Nat.le_refl _) (Nat.le_refl _) ⟨rfl, rfl⟩
theorem kx_SL_indexOfChar {b n k : Nat} {f : Nat → Int32} (hv : h b = some (kx_ba aC n f)) (hn : n < 65536) (hk : k < 128) : jj_Ct l D aC base yn_SL_indexOfChar yb_SL_indexOfChar 6 (some .int) 0 0 0 [.ref b, .int (nI k), .int 0, .int (nI n)] h (fun r h' => ∃ v : Int32, r = some (.int v) ∧ (0 ≤ v ↔ ∃ i, i < n ∧ f i = nI k) ∧ h' = h) := by
  refine jj_start (tb := tb_SL_indexOfChar) (by decide) tg_SL_indexOfChar (Nat.le_of_ble_eq_true rfl) ?_
  intro p e s m args below meth c C
  have loop : ∀ (q j : Nat) (v : Int32), v = nI j → j + q = n → (∀ i, i < j → ¬ f i = nI k) → jj_J p l e (jj_rm 0 0 0) s m args below meth c D base 6 (MQ below (jj_Q D base (fun r h' => ∃ v : Int32, r = some (.int v) ∧ (0 ≤ v ↔ ∃ i, i < n ∧ f i = nI k) ∧ h' = h)) args s 0 0 (jj_A base)) 7 [(0, .ref b), (1, .int (nI k)), (2, .int 0), (3, .int (nI n)), (4, .int (nI k)), (5, .int v)] [] h 0 0 := by
    intro q
    induction q with
    | zero =>
      intro j v hj hq hi
      refine jj_go C 2 rfl ?_
      refine jj_if C rfl (fun _ => ?_) (fun z => absurd (by rw [hj]; exact nI_le (by omega) (by omega)) z)
      refine jj_go C 1 rfl ?_
      refine jj_iret C rfl rfl rfl (Nat.le_refl _) (Nat.le_refl _) ⟨-1, rfl, ⟨fun z => absurd z (by decide), fun ⟨i, g1, g2⟩ => absurd g2 (hi i (by omega))⟩, rfl⟩
    | succ q ih =>
      intro j v hj hq hi
      have hlt : j < n := by omega
      refine jj_go C 2 rfl ?_
      refine jj_if C rfl (fun z => absurd z (by rw [hj]; exact nI_ge hlt (by omega))) (fun _ => ?_)
      refine jj_go C 2 rfl ?_
      refine jj_bald C rfl hv hj hlt (by omega) ?_
      refine jj_go C 1 rfl ?_
      refine jj_if C rfl (fun z => ?_) (fun z => ?_)
      · refine jj_go C 1 rfl ?_
        exact jj_iret C rfl rfl rfl (Nat.le_refl _) (Nat.le_refl _) ⟨v, rfl, ⟨fun _ => ⟨j, hlt, z⟩, fun _ => by rw [hj]; exact nI_pos' (by omega)⟩, rfl⟩
      · refine jj_go C 2 rfl ?_
        exact ih (j + 1) (v + 1) (by rw [hj, nI_1]) (by omega) (lt_s hi z)
  refine jj_go C 2 rfl ?_
  refine jj_top (ky_i2b k hk) ?_
  refine jj_go C 3 rfl ?_
  exact loop n 0 0 nI_0.symm (by omega) (fun i hi => absurd hi (Nat.not_lt_zero _))
theorem kx_SL_indexOf {b n k : Nat} {f : Nat → Int32} (hv : h b = some (kx_ba aC n f)) (hn : n < 65536) (hk : k < 128) : jj_Ct l D aC base yn_SL_indexOf yb_SL_indexOf 4 (some .int) 1 0 0 [.ref b, .int (nI k), .int 0, .int (nI n)] h (fun r h' => ∃ v : Int32, r = some (.int v) ∧ (0 ≤ v ↔ ∃ i, i < n ∧ f i = nI k) ∧ h' = h) := by
  refine jj_start (tb := tb_SL_indexOf) (by decide) tg_SL_indexOf (Nat.le_of_ble_eq_true rfl) ?_
  intro p e s m args below meth c C
  refine jj_go C 1 rfl ?_
  refine jj_callS C rfl ml_SL_88 wd_430 (kx_SL_canEncode2 (k := k) (by omega)) (rest := []) rfl rfl ⟨Nat.le_refl _, Nat.le_of_ble_eq_true rfl⟩ (Nat.le_refl _) (Nat.le_refl _) (Nat.zero_le _) ?_
  rintro q9 h9 ⟨rfl, hh9⟩
  rw [hh9]
  refine jj_if C rfl (fun z => absurd z (by decide)) (fun _ => ?_)
  refine jj_go C 2 rfl ?_
  refine jj_mmax C rfl wd_432 wd_163 wd_9 wd_164 (Nat.le_refl _) (Nat.le_of_ble_eq_true rfl) (Nat.le_refl _) (Nat.le_refl _) ?_
  refine jj_top (if_neg (by decide)) ?_
  refine jj_go C 3 rfl ?_
  refine jj_alen C 4 rfl hv rfl ?_
  refine jj_mmin C rfl wd_433 wd_181 wd_9 wd_182 (Nat.le_refl _) (Nat.le_of_ble_eq_true rfl) (Nat.le_refl _) (Nat.le_refl _) ?_
  refine jj_top (if_neg (nI_nlt (a := n) (b := n) (Nat.le_refl _) (by omega))) ?_
  refine jj_go C 3 rfl ?_
  refine jj_if C rfl (fun z => ?_) (fun z => ?_)
  · refine jj_go C 4 rfl ?_
    refine jj_callS C rfl ml_SL_95 wd_435 (kx_SL_indexOfChar hv hn hk) (rest := []) rfl rfl ⟨Nat.le_refl _, Nat.le_of_ble_eq_true rfl⟩ (Nat.le_refl _) (Nat.le_refl _) (Nat.zero_le _) ?_
    rintro q9 h9 ⟨v, rfl, hv9, hh9⟩
    exact jj_iret C rfl rfl rfl (Nat.le_refl _) (Nat.le_refl _) ⟨v, rfl, hv9, hh9⟩
  · have hn0 : ¬ 0 < n := fun q => z (nI_lt (a := 0) q (by omega))
    refine jj_go C 1 rfl ?_
    exact jj_iret C rfl rfl rfl (Nat.le_refl _) (Nat.le_refl _) ⟨-1, rfl, ⟨fun z => absurd z (by decide), fun ⟨i, g1, g2⟩ => absurd g1 (by omega)⟩, rfl⟩
theorem kt_ST_indexOf {a b k : Nat} {t : List Nat} (hs : kx_ST aC h a b t) (hl : t.length < 65536) (hk : k < 128) : jj_Ct l D aC base yn_ST_indexOf1 yb_ST_indexOf1 2 (some .int) 3 0 0 [.ref a, .int (nI k)] h (fun r h' => ∃ v : Int32, r = some (.int v) ∧ (0 ≤ v ↔ px_no t k = false) ∧ h' = h) := by
  have hs' := hs
  obtain ⟨hs1, hz, f, ho, hv, htx⟩ := hs'
  have key : (∃ i, i < t.length ∧ f i = nI k) ↔ px_no t k = false := by
    constructor
    · rintro ⟨i, g1, g2⟩
      refine pb_f px_no_i (fun q => q i g1 ?_)
      obtain ⟨x1, x2⟩ := htx i g1
      rw [x1] at g2
      exact (nI_eq (by omega) (by omega)).mp g2
    · intro hno
      refine Classical.byContradiction (fun hc => ?_)
      have : px_no t k = true := px_no_i.mpr (fun i hi q => hc ⟨i, hi, by rw [(htx i hi).1, q]⟩)
      rw [hno] at this
      cases this
  have h2 : jj_Ct l D aC base yn_ST_indexOf2 yb_ST_indexOf2 3 (some .int) 2 0 0 [.ref a, .int (nI k), .int 0] h (fun r h' => ∃ v : Int32, r = some (.int v) ∧ (0 ≤ v ↔ px_no t k = false) ∧ h' = h) := by
    refine jj_start (tb := tb_ST_indexOf2) (by decide) tg_ST_indexOf2 (Nat.le_of_ble_eq_true rfl) ?_
    intro p e s m args below meth c C
    refine jj_go C 1 rfl ?_
    refine jj_callV C rfl ml_ST_492 wd_376 ho rfl se_ST_ST_isLatin1 (kx_ST_isLatin1 ho) (rest := []) rfl rfl ⟨Nat.le_of_ble_eq_true rfl, Nat.le_of_ble_eq_true rfl⟩ (Nat.le_refl _) (Nat.le_refl _) (Nat.zero_le _) ?_
    rintro q9 h9 ⟨rfl, hh9⟩
    rw [hh9]
    refine jj_if C rfl (fun hc => absurd hc (by decide)) (fun _ => ?_)
    refine jj_go C 1 rfl ?_
    refine jj_getf C rfl fl_ST_9 ho rfl ?_
    refine jj_go C 3 rfl ?_
    refine jj_callV C rfl ml_ST_505 wd_364 ho rfl se_ST_ST_length (kx_ST_length ho hv) (rest := [.int 0, .int (nI k), .ref b]) rfl rfl ⟨Nat.le_refl _, Nat.le_of_ble_eq_true rfl⟩ (Nat.le_refl _) (Nat.le_refl _) (Nat.le_of_ble_eq_true rfl) ?_
    rintro q9 h9 ⟨rfl, hh9⟩
    rw [hh9]
    refine jj_callS C rfl ml_ST_637 wd_427 (kx_SL_indexOf hv hl hk) (rest := []) rfl rfl ⟨Nat.le_refl _, Nat.le_of_ble_eq_true rfl⟩ (Nat.le_refl _) (Nat.le_refl _) (Nat.zero_le _) ?_
    rintro q9 h9 ⟨v, rfl, hv9, hh9⟩
    refine jj_go C 1 rfl ?_
    exact jj_iret C rfl rfl rfl (Nat.le_refl _) (Nat.le_refl _) ⟨v, rfl, hv9.trans key, hh9⟩
  refine jj_start (tb := tb_ST_indexOf1) (by decide) tg_ST_indexOf1 (Nat.le_of_ble_eq_true rfl) ?_
  intro p e s m args below meth c C
  refine jj_go C 3 rfl ?_
  refine jj_callV C rfl ml_ST_633 wd_422 ho rfl se_ST_ST_indexOf2 h2 (rest := []) rfl rfl ⟨Nat.le_refl _, Nat.le_of_ble_eq_true rfl⟩ (Nat.le_refl _) (Nat.le_refl _) (Nat.zero_le _) ?_
  rintro q9 h9 ⟨v, rfl, hv9, hh9⟩
  exact jj_iret C rfl rfl rfl (Nat.le_refl _) (Nat.le_refl _) ⟨v, rfl, hv9, hh9⟩
/-- a name: a pattern with a domain, without * and ? -/
def px_nm (t : List Nat) : Bool := Nat.blt 0 (px_re t true 0) && (px_no t 42 && px_no t 63)
variable {pt tx txb st en : Nat} {t : List Nat} {Sf Ef : Nat → Int32} {dm op : Int32} {fm : Value}
theorem pt_isName (hp : pt_at aC h pt tx txb st en t Sf Ef (nI (px_re t true 0)) op fm) : jj_Ct l D aC base yn_PT_isName yb_PT_isName 1 (some .boolean) 4 0 0 [.ref pt] h (fun r h' => r = some (.int (jb_I (px_nm t))) ∧ h' = h) := by
  have hlen : t.length ≤ 60 := hp.2.2.2.2.2.2.2
  have hre : px_re t true 0 ≤ t.length := by have := px_re_max (t := t) (w := true) (q := 0); omega
  have ho := hp.1
  have hs := hp.2.1
  obtain ⟨fs, hrc⟩ := hs.recv
  refine jj_start (tb := tb_PT_isName) (by decide) tg_PT_isName (Nat.le_of_ble_eq_true rfl) ?_
  intro p e s m args below meth c C
  have no : px_nm t = false → jj_J p l e (jj_rm 4 0 0) s m args below meth c D base 1 (MQ below (jj_Q D base (fun r h' => r = some (.int (jb_I (px_nm t))) ∧ h' = h)) args s 0 0 (jj_A base)) 35 [(0, .ref pt)] [] h 0 0 := by
    intro hn
    refine jj_go C 1 rfl ?_
    exact jj_iret C rfl rfl rfl (Nat.le_refl _) (Nat.le_refl _) ⟨by rw [hn]; rfl, rfl⟩
  refine jj_go C 1 rfl ?_
  refine jj_getf C rfl fl_PT_18 ho rfl ?_
  refine jj_if C rfl (fun z => ?_) (fun z => ?_)
  · have g := (nI_leI (a := px_re t true 0) (b := 0) (by omega) (by decide)).mp z
    refine no ?_
    have : px_re t true 0 = 0 := by omega
    unfold px_nm
    rw [this]
    rfl
  have g0 : 0 < px_re t true 0 := Nat.not_le.mp (fun q => z (nI_le (b := 0) q (by decide)))
  have gb : Nat.blt 0 (px_re t true 0) = true := Nat.ble_eq.mpr g0
  refine jj_go C 1 rfl ?_
  refine jj_getf C rfl fl_PT_32 ho rfl ?_
  refine jj_go C 1 rfl ?_
  refine jj_callV C rfl ml_PT_57 wd_418 hrc rfl se_ST_ST_indexOf1 (As := [.int 42]) (kt_ST_indexOf (k := 42) hs (by omega) (by decide)) (rest := []) rfl rfl ⟨Nat.le_refl _, Nat.le_of_ble_eq_true rfl⟩ (Nat.le_refl _) (Nat.le_refl _) (Nat.zero_le _) ?_
  rintro q9 h9 ⟨v, rfl, hv9, hh9⟩
  rw [hh9]
  refine jj_if C rfl (fun z => no (by unfold px_nm; rw [hv9.mp z]; simp)) (fun z => ?_)
  have g42 : px_no t 42 = true := by
    cases hb : px_no t 42 with
    | true => rfl
    | false => exact absurd (hv9.mpr hb) z
  refine jj_go C 1 rfl ?_
  refine jj_getf C rfl fl_PT_32 ho rfl ?_
  refine jj_go C 1 rfl ?_
  refine jj_callV C rfl ml_PT_57 wd_418 hrc rfl se_ST_ST_indexOf1 (As := [.int 63]) (kt_ST_indexOf (k := 63) hs (by omega) (by decide)) (rest := []) rfl rfl ⟨Nat.le_refl _, Nat.le_of_ble_eq_true rfl⟩ (Nat.le_refl _) (Nat.le_refl _) (Nat.zero_le _) ?_
  rintro q9 h9 ⟨v2, rfl, hv9, hh9⟩
  rw [hh9]
  refine jj_if C rfl (fun z => no (by unfold px_nm; rw [hv9.mp z]; simp)) (fun z => ?_)
  have g63 : px_no t 63 = true := by
    cases hb : px_no t 63 with
    | true => rfl
    | false => exact absurd (hv9.mpr hb) z
  refine jj_go C 2 rfl ?_
  exact jj_iret C rfl rfl rfl (Nat.le_refl _) (Nat.le_refl _) ⟨by unfold px_nm; rw [gb, g42, g63]; rfl, rfl⟩
/-- a Pattern that was read: its text, its form -/
def pt_ok (aC : Nat → ClassId) (h : jjHp) (pt : Nat) (t : List Nat) : Prop := ∃ tx txb st en Sf Ef fm fmb, pt_at aC h pt tx txb st en t Sf Ef (nI (px_re t true 0)) (jb_I (px_pl t).2.2) (.ref fm) ∧ px_s t Sf Ef (px_pl t).2.1 ∧ kx_ST aC h fm fmb (px_fo t)
theorem bs_patternIn (hs : kx_ST aC h tx txb t) (hlen : t.length ≤ 60) : jj_Ct l D aC base yn_BS_patternIn yb_BS_patternIn 2 (some (.object "BeanServer$Pattern")) 9 69 9358 [.ref tx] h (fun r h' => jj_fr [] h h' ∧ ((px_pa t = true ∧ ∃ pt, r = some (.ref pt) ∧ h pt = none ∧ pt_ok aC h' pt t) ∨ (px_pa t = false ∧ r = some .null))) := by
  refine jj_start (tb := tb_BS_patternIn) (by decide) tg_BS_patternIn (Nat.le_of_ble_eq_true rfl) ?_
  intro p e s m args below meth c C
  refine jj_new C rfl nw_BS_71 (Nat.le_of_ble_eq_true rfl) (Nat.le_of_ble_eq_true rfl) (fun x hx => ?_)
  refine jj_go C 2 rfl ?_
  refine jj_callI C rfl ml_BS_211 wd_331 rfl (pt_init (tx := tx) jj_up_s) (rest := [.ref x]) rfl rfl ⟨Nat.le_of_ble_eq_true rfl, Nat.le_of_ble_eq_true rfl⟩ (Nat.le_of_ble_eq_true rfl) (Nat.le_of_ble_eq_true rfl) (Nat.le_of_ble_eq_true rfl) ?_
  rintro r h1 ⟨rfl, st1, en1, i1, i2, i3, i4, i5⟩
  obtain ⟨hs1, hz, f, ho, hv, htx⟩ := hs
  have ntx : tx ≠ x := jj_ne hx ho
  have ntb : txb ≠ x := jj_ne hx hv
  obtain ⟨e1, e2⟩ := i2 (2, en1, .inl (aC 0, 26, .inl (fun _ => 0))) List.mem_cons_self
  obtain ⟨s1, s2⟩ := i2 (1, st1, .inl (aC 0, 26, .inl (fun _ => 0))) (List.mem_cons_of_mem _ List.mem_cons_self)
  dsimp only at e1 e2 s1 s2
  have hfr : jj_fr [] h h1 := fun c e _ hc => i4 c e (jj_ne hx hc) (jj_up_f hx hc)
  have hne : st1 ≠ en1 := fun q => by
    have := (List.nodup_cons.mp i3).1
    exact this (by rw [← q]; exact List.mem_cons_self)
  have hp : pt_at aC h1 x tx txb st1 en1 t (fun _ => 0) (fun _ => 0) 0 0 (.ref (aC 100)) := ⟨i1, ⟨hs1, hz, f, hfr _ _ List.not_mem_nil ho, hfr _ _ List.not_mem_nil hv, htx⟩, s1, e1, hne, (fun q => by rw [q, jj_up_f hx hv] at s2; cases s2), (fun q => by rw [q, jj_up_f hx hv] at e2; cases e2), hlen⟩
  have hst0 : h st1 = none := by
    cases hq : h st1 with
    | none => rfl
    | some e => rw [jj_up_f hx hq] at s2; cases s2
  have hen0 : h en1 = none := by
    cases hq : h en1 with
    | none => rfl
    | some e => rw [jj_up_f hx hq] at e2; cases e2
  refine jj_go C 2 rfl ?_
  refine jj_callV C rfl ml_BS_212 wd_356 i1 rfl (jj_SEL.mk wd_357) (pt_parse hp) (rest := []) rfl rfl ⟨Nat.le_refl _, Nat.le_of_ble_eq_true rfl⟩ (Nat.le_refl _) (Nat.le_refl _) (Nat.zero_le _) ?_
  rintro r h2 ⟨rfl, hf2, -, hok⟩
  have hfr2 : jj_fr [] h h2 := fun c e _ hc => hf2 c e (fun q => by
    rcases List.mem_cons.mp q with q | q
    · rw [q, hx] at hc
      cases hc
    · rcases List.mem_cons.mp q with q | q
      · rw [q, hst0] at hc
        cases hc
      · rw [List.mem_singleton.mp q, hen0] at hc
        cases hc) (hfr c e List.not_mem_nil hc)
  rcases jb_cases (px_pa t) with ⟨b1, b2⟩ | ⟨b1, b2⟩
  · rw [b2]
    obtain ⟨Sf, Ef, fm, fmb, g1, g2, g3, -, -⟩ := hok b1
    refine jj_if C rfl (fun z => absurd z (by decide)) (fun _ => ?_)
    refine jj_go C 2 rfl ?_
    exact jj_aret C rfl rfl (Or.inl ⟨_, rfl⟩) (Or.inr ⟨_, rfl⟩) (Nat.le_refl _) (Nat.le_refl _) ⟨hfr2, Or.inl ⟨b1, x, rfl, hx, tx, txb, st1, en1, Sf, Ef, fm, fmb, g1, g2, g3⟩⟩
  · rw [b2]
    refine jj_if C rfl (fun _ => ?_) (fun z => absurd rfl z)
    refine jj_go C 1 rfl ?_
    exact jj_aret C rfl rfl (Or.inl ⟨_, rfl⟩) (Or.inl rfl) (Nat.le_refl _) (Nat.le_refl _) ⟨hfr2, Or.inr ⟨b1, rfl⟩⟩
end NM
