/-! The class's Pattern: new, parse; String.indexOf; isName -/
/-- is a text a pattern? -/
def px_pa (t : List Nat) : Bool := Nat.ble (px_re t true 0) 6 && (Nat.blt (px_re t true 0) t.length && (t.getD (px_re t true 0) 0 == 58 && (px_ls t true 60 (px_re t true 0 + 1) (fun _ => none)).1))
/-- its places, and whether it ends in * -/
abbrev px_pl (t : List Nat) : Bool × (Nat → Option Nat) × Bool := px_ls t true 60 (px_re t true 0 + 1) (fun _ => none)
/-- its form -/
def px_fo (t : List Nat) : List Nat := px_form t (px_re t true 0) (px_pl t).2.1 (px_pl t).2.2
theorem px_pa_i {t : List Nat} : px_pa t = true ↔ px_re t true 0 ≤ 6 ∧ px_re t true 0 < t.length ∧ t.getD (px_re t true 0) 0 = 58 ∧ (px_pl t).1 = true := by
  unfold px_pa
  simp only [Bool.and_eq_true, Nat.ble_eq, beq_iff_eq, Nat.blt, Nat.succ_le]
theorem px_fo_len {t : List Nat} (h : px_pa t = true) : (px_fo t).length = t.length := by
  obtain ⟨h1, h2, h3, h4⟩ := px_pa_i.mp h
  exact px_form_len h2 h4
theorem px_pl_V {t : List Nat} (h : (px_pl t).1 = true) : px_V t (px_pl t).2.1 := fun k p _ hk => by
  have := px_ls_gd 60 _ _ h (fun k q hq => by cases hq) k p hk
  exact ⟨by have := this.2.2.2.1; omega, this.2.2.2.2.2.1⟩
section PT6
variable {l : Launch} {D : va_G} {aC : Nat → ClassId} {base : Nat} {h : jjHp}
theorem pt_init {x tx : Nat} (ho : h x = some (.inr (3, [.null, .null, .null, .int 0, .int 0, .null]))) : jj_Ct l D aC base yn_PT_init yb_PT_init 2 none 1 2 52 [.ref x, .ref tx] h (fun r h' => r = none ∧ ∃ st en, jj_OI h h' x 3 [.ref tx, .ref st, .ref en, .int 0, .int 0, .ref (aC 100)] [(2, en, .inl (aC 0, 26, .inl (fun _ => 0))), (1, st, .inl (aC 0, 26, .inl (fun _ => 0)))]) := by
  refine jj_start (tb := tb_PT_init) (by decide) tg_PT_init (Nat.le_of_ble_eq_true rfl) ?_
  intro p e s m args below meth c C
  refine jj_go C 1 rfl ?_
  refine jj_objI C rfl wd_333 wd_29 wd_30 ⟨Nat.le_of_ble_eq_true rfl, Nat.le_of_ble_eq_true rfl⟩ (Nat.zero_le _) ?_
  have hI := jj_OI.start ho
  refine jj_go C 2 rfl ?_
  refine jj_arrF C hI 0 (N := 26) (a0 := (26, .inl (fun _ => 0))) rfl wd_103 rfl rfl (fun _ => rfl) rfl (by decide) (Nat.le_of_ble_eq_true rfl) (Nat.le_of_ble_eq_true rfl) rfl fp_PT_9 rfl (Nat.le_of_ble_eq_true rfl) (fun st h1 hI => ?_)
  refine jj_go C 2 rfl ?_
  refine jj_arrF C hI 0 (N := 26) (a0 := (26, .inl (fun _ => 0))) rfl wd_103 rfl rfl (fun _ => rfl) rfl (by decide) (Nat.le_of_ble_eq_true rfl) (Nat.le_of_ble_eq_true rfl) rfl fp_PT_15 rfl (Nat.le_of_ble_eq_true rfl) (fun en h2 hI => ?_)
  refine jj_go C 2 rfl ?_
  refine jj_numF C hI rfl fl_PT_18 rfl rfl (Nat.le_of_ble_eq_true rfl) (fun h3 hI => ?_)
  refine jj_go C 2 rfl ?_
  refine jj_numF C hI rfl fl_PT_22 rfl rfl (Nat.le_of_ble_eq_true rfl) (fun h4 hI => ?_)
  refine jj_go C 1 rfl ?_
  refine jj_ldcs C rfl (Or.inr ⟨rfl, rfl⟩) ?_
  refine jj_numF C hI rfl fl_PT_28 rfl rfl (Nat.le_of_ble_eq_true rfl) (fun h5 hI => ?_)
  refine jj_go C 2 rfl ?_
  refine jj_putF C rfl fp_PT_32 rfl hI.1 rfl rfl (Nat.le_of_ble_eq_true rfl) ?_
  exact jj_vret C rfl rfl (Nat.le_of_ble_eq_true rfl) (Nat.le_of_ble_eq_true rfl) ⟨rfl, st, en, hI.put⟩
variable {pt tx txb st en : Nat} {t : List Nat} {Sf Ef : Nat → Int32} {dm op : Int32} {fm : Value}
/-- a field of the Pattern itself is put -/
theorem pt_at.put {dm' op' : Int32} {fm' : Value} {fs : List Value} (hp : pt_at aC h pt tx txb st en t Sf Ef dm op fm) (hfs : fs = [.ref tx, .ref st, .ref en, .int dm', .int op', fm']) : pt_at aC (jj_up h pt (.inr (3, fs))) pt tx txb st en t Sf Ef dm' op' fm' := by
  subst hfs
  obtain ⟨ho, hs, hst, hen, n⟩ := hp
  have np1 : st ≠ pt := kx_ne (m := 0) (aC := aC) ho hst
  have np2 : en ≠ pt := kx_ne (m := 0) (aC := aC) ho hen
  obtain ⟨fs0, hrc⟩ := hs.recv
  have npt : tx ≠ pt := fun q9 => by rw [q9, ho] at hrc; cases hrc
  have npb : txb ≠ pt := by
    obtain ⟨_, _, _, -, hvb, -⟩ := hs
    exact kx_ne (m := 0) (aC := aC) ho hvb
  have hf0 : jj_fr [pt] h (jj_up h pt (.inr (3, [.ref tx, .ref st, .ref en, .int dm', .int op', fm']))) := jj_fr.rf.up (Or.inl List.mem_cons_self)
  exact ⟨jj_up_s, hs.keep hf0 (fun q9 => npt (List.mem_singleton.mp q9)) (fun q9 => npb (List.mem_singleton.mp q9)), (jj_up_n np1).trans hst, (jj_up_n np2).trans hen, n⟩
theorem pt_parse (hp : pt_at aC h pt tx txb st en t (fun _ => 0) (fun _ => 0) 0 0 (.ref (aC 100))) : jj_Ct l D aC base yn_PT_parse yb_PT_parse 1 (some .boolean) 8 66 9300 [.ref pt] h (fun r h' => r = some (.int (jb_I (px_pa t))) ∧ jj_fr [pt, st, en] h h' ∧ (∃ Sf Ef dm op fm, pt_at aC h' pt tx txb st en t Sf Ef dm op (.ref fm)) ∧ (px_pa t = true → ∃ Sf Ef fm fmb, pt_at aC h' pt tx txb st en t Sf Ef (nI (px_re t true 0)) (jb_I (px_pl t).2.2) (.ref fm) ∧ px_s t Sf Ef (px_pl t).2.1 ∧ kx_ST aC h' fm fmb (px_fo t) ∧ h fm = none ∧ h fmb = none)) := by
  have hlen : t.length ≤ 60 := hp.2.2.2.2.2.2.2
  have hre : px_re t true 0 ≤ t.length := by have := px_re_max (t := t) (w := true) (q := 0); omega
  refine jj_start (tb := tb_PT_parse) (by decide) tg_PT_parse (Nat.le_of_ble_eq_true rfl) ?_
  intro p e s m args below meth c C
  have ho := hp.1
  refine jj_go C 3 rfl ?_
  refine jj_callV C rfl ml_PT_35 wd_361 ho rfl se_PT_PT_rowEnd (As := [.int 0]) (pt_rowEnd (q := 0) hp (by decide)) (rest := [.ref pt]) rfl rfl ⟨Nat.le_of_ble_eq_true rfl, Nat.le_of_ble_eq_true rfl⟩ (Nat.zero_le _) (Nat.zero_le _) (Nat.le_of_ble_eq_true rfl) ?_
  rintro q9 h9 ⟨rfl, hh9⟩
  rw [hh9]
  refine jj_putf C rfl fl_PT_18 ho rfl rfl (Nat.le_of_ble_eq_true rfl) ?_
  have hp1 := hp.put (dm' := nI (px_re t true 0)) (op' := 0) (fm' := .ref (aC 100)) rfl
  have hf1 : jj_fr [pt, st, en] h (jj_up h pt (.inr (3, [.ref tx, .ref st, .ref en, .int (nI (px_re t true 0)), .int 0, .ref (aC 100)]))) := jj_fr.rf.up (Or.inl List.mem_cons_self)
  refine jj_eq (h' := jj_up h pt (.inr (3, [.ref tx, .ref st, .ref en, .int (nI (px_re t true 0)), .int 0, .ref (aC 100)]))) rfl rfl rfl rfl ?_
  generalize (jj_up h pt (.inr (3, [.ref tx, .ref st, .ref en, .int (nI (px_re t true 0)), .int 0, .ref (aC 100)]))) = h1 at hp1 hf1 ⊢
  have ho1 := hp1.1
  have hs1 := hp1.2.1
  obtain ⟨fs1, hrc1⟩ := hs1.recv
  have no : ∀ (h2 : jjHp) (Sf Ef : Nat → Int32) (dm op : Int32) (fm : Nat) (pc : Nat) (lc : jjLoc), jj_look tb_PT_parse pc = some (.ireturn, pc + 1, 0, 0) → px_pa t = false → jj_fr [pt, st, en] h h2 → pt_at aC h2 pt tx txb st en t Sf Ef dm op (.ref fm) → jj_J p l e (jj_rm 8 66 9300) s m args below meth c D base 1 (MQ below (jj_Q D base (fun r h' => r = some (.int (jb_I (px_pa t))) ∧ jj_fr [pt, st, en] h h' ∧ (∃ Sf Ef dm op fm, pt_at aC h' pt tx txb st en t Sf Ef dm op (.ref fm)) ∧ (px_pa t = true → ∃ Sf Ef fm fmb, pt_at aC h' pt tx txb st en t Sf Ef (nI (px_re t true 0)) (jb_I (px_pl t).2.2) (.ref fm) ∧ px_s t Sf Ef (px_pl t).2.1 ∧ kx_ST aC h' fm fmb (px_fo t) ∧ h fm = none ∧ h fmb = none))) args s 66 9300 (jj_A base)) pc lc [.int 0] h2 0 0 :=
    fun h2 Sf Ef dm op fm pc lc hl hn hf hp => jj_iret C hl rfl rfl (Nat.zero_le _) (Nat.zero_le _) ⟨by rw [hn]; rfl, hf, ⟨Sf, Ef, dm, op, fm, hp⟩, fun q => by rw [hn] at q; cases q⟩
  refine jj_go C 1 rfl ?_
  refine jj_getf C rfl fl_PT_18 ho1 rfl ?_
  refine jj_go C 1 rfl ?_
  refine jj_if C rfl (fun z => ?_) (fun z => ?_)
  · have g := (nI_ltI (a := 6) (b := px_re t true 0) (by decide) (by omega)).mp z
    refine jj_go C 1 rfl ?_
    exact no h1 _ _ _ _ _ _ _ rfl (pb_f px_pa_i (by omega)) hf1 hp1
  have g6 : ¬ 6 < px_re t true 0 := fun q => z ((nI_ltI (a := 6) (b := px_re t true 0) (by decide) (by omega)).mpr q)
  refine jj_go C 1 rfl ?_
  refine jj_getf C rfl fl_PT_18 ho1 rfl ?_
  refine jj_go C 1 rfl ?_
  refine jj_getf C rfl fl_PT_32 ho1 rfl ?_
  refine jj_callV C rfl ml_PT_39 wd_364 hrc1 rfl se_ST_ST_length (kt_ST_length hs1) (rest := [.int (nI (px_re t true 0))]) rfl rfl ⟨Nat.le_of_ble_eq_true rfl, Nat.le_of_ble_eq_true rfl⟩ (Nat.zero_le _) (Nat.zero_le _) (Nat.le_of_ble_eq_true rfl) ?_
  rintro q9 h9 ⟨rfl, hh9⟩
  rw [hh9]
  refine jj_if C rfl (fun z => ?_) (fun z => ?_)
  · have g := (nI_leI (a := t.length) (b := px_re t true 0) (by omega) (by omega)).mp z
    refine jj_go C 1 rfl ?_
    exact no h1 _ _ _ _ _ _ _ rfl (pb_f px_pa_i (by omega)) hf1 hp1
  have gl : px_re t true 0 < t.length := Nat.not_le.mp (fun q => z (nI_le q (by omega)))
  have hcd := hs1.lt (px_re t true 0)
  refine jj_go C 1 rfl ?_
  refine jj_getf C rfl fl_PT_32 ho1 rfl ?_
  refine jj_go C 1 rfl ?_
  refine jj_getf C rfl fl_PT_18 ho1 rfl ?_
  refine jj_callV C rfl ml_PT_45 wd_372 hrc1 rfl se_ST_ST_charAt (kt_ST_charAt hs1 gl (by omega)) (rest := []) rfl rfl ⟨Nat.le_of_ble_eq_true rfl, Nat.le_of_ble_eq_true rfl⟩ (Nat.zero_le _) (Nat.zero_le _) (Nat.zero_le _) ?_
  rintro q9 h9 ⟨rfl, hh9⟩
  rw [hh9]
  refine jj_go C 1 rfl ?_
  refine jj_if C rfl (fun z => ?_) (fun z => ?_)
  rotate_left
  · have g : ¬ t.getD (px_re t true 0) 0 = 58 := fun q => z (by rw [q]; rfl)
    refine jj_go C 1 rfl ?_
    exact no h1 _ _ _ _ _ _ _ rfl (pb_f px_pa_i (fun q => g q.2.2.1)) hf1 hp1
  have g58 := (nI_eq (b := 58) (by omega) (by decide)).mp z
  refine jj_go C 2 rfl ?_
  refine jj_getf C rfl fl_PT_18 ho1 rfl ?_
  refine jj_go C 2 rfl ?_
  refine jj_top (nI_1 _) ?_
  refine jj_callV C rfl ml_PT_49 wd_391 ho1 rfl se_PT_PT_parseList (pt_parseList (q0 := px_re t true 0 + 1) hp1 ⟨_, rfl⟩ (by omega) (fun k hk => Or.inl ⟨rfl, rfl⟩)) (rest := []) rfl rfl ⟨Nat.le_of_ble_eq_true rfl, Nat.le_of_ble_eq_true rfl⟩ (Nat.zero_le _) (Nat.zero_le _) (Nat.zero_le _) ?_
  rintro r h2 ⟨rfl, S2, E2, o2, hp2, hf2, hg2⟩
  have hf2' := hf1.tr hf2
  show jj_J p l e (jj_rm 8 66 9300) s m args below meth c D base 1 _ _ _ (Value.int (jb_I (px_pl t).1) :: []) h2 _ _
  rcases jb_cases (px_pl t).1 with ⟨b1, b2⟩ | ⟨b1, b2⟩
  · rw [b2]
    obtain ⟨hP2, rfl⟩ := hg2 b1
    have hpa : px_pa t = true := px_pa_i.mpr ⟨by omega, gl, g58, b1⟩
    have ho2 := hp2.1
    refine jj_if C rfl (fun z => absurd z (by decide)) (fun _ => ?_)
    refine jj_go C 2 rfl ?_
    refine jj_callV C rfl ml_PT_53 wd_399 ho2 rfl se_PT_PT_ordered (pt_ordered hp2 hP2 (px_pl_V b1) gl (by have := px_fo_len hpa; unfold px_fo at this; rw [this]; exact hlen)) (rest := [.ref pt]) rfl rfl ⟨Nat.le_refl _, Nat.le_of_ble_eq_true rfl⟩ (Nat.le_refl _) (Nat.le_refl _) (Nat.le_of_ble_eq_true rfl) ?_
    rintro r h3 ⟨zz, qq, rfl, hzz, hqq, hst3, hf3⟩
    have hp3 : pt_at aC h3 pt tx txb st en t S2 E2 (nI (px_re t true 0)) (jb_I (px_pl t).2.2) (.ref (aC 100)) := hp2.keep2 hf3 ⟨List.not_mem_nil, List.not_mem_nil, List.not_mem_nil, List.not_mem_nil, List.not_mem_nil⟩
    have hf3' := hf2'.tr (hf3.mono (T := [pt, st, en]) (fun a ha => absurd ha List.not_mem_nil))
    refine jj_putf C rfl fl_PT_28 hp3.1 rfl rfl (Nat.le_of_ble_eq_true rfl) ?_
    refine jj_go C 1 rfl ?_
    have hp4 := hp3.put (dm' := nI (px_re t true 0)) (op' := jb_I (px_pl t).2.2) (fm' := .ref zz) rfl
    have hnz : zz ≠ pt := fun q => by rw [q, ho2] at hzz; cases hzz
    have hnq : qq ≠ pt := fun q => by rw [q, ho2] at hqq; cases hqq
    have fresh : ∀ c, h2 c = none → c ≠ pt → h c = none := by
      intro c hc hcp
      cases hv : h c with
      | none => rfl
      | some e =>
        have n1 : c ∉ [pt, st, en] := fun q => by
          rcases List.mem_cons.mp q with q | q
          · exact hcp q
          · rcases List.mem_cons.mp q with q | q
            · rw [q, hp2.2.2.1] at hc
              cases hc
            · rw [List.mem_singleton.mp q, hp2.2.2.2.1] at hc
              cases hc
        have := hf2' c e n1 hv
        rw [hc] at this
        cases this
    have hfx : jj_fr [pt] h3 (jj_up h3 pt (.inr (3, [.ref tx, .ref st, .ref en, .int (nI (px_re t true 0)), .int (jb_I (px_pl t).2.2), .ref zz]))) := jj_fr.rf.up (Or.inl List.mem_cons_self)
    refine jj_iret C rfl rfl rfl (Nat.le_refl _) (Nat.le_refl _) ⟨by rw [hpa]; rfl, hf3'.up (Or.inl List.mem_cons_self), ⟨_, _, _, _, zz, hp4⟩, fun _ => ⟨_, _, zz, qq, hp4, hP2, hst3.keep hfx (fun q => hnz (List.mem_singleton.mp q)) (fun q => hnq (List.mem_singleton.mp q)), fresh zz hzz hnz, fresh qq hqq hnq⟩⟩
  · rw [b2]
    refine jj_if C rfl (fun _ => ?_) (fun z => absurd rfl z)
    refine jj_go C 1 rfl ?_
    exact no h2 S2 E2 _ o2 _ _ _ rfl (pb_f px_pa_i (fun q => by rw [b1] at q; cases q.2.2.2)) hf2' hp2
end PT6
