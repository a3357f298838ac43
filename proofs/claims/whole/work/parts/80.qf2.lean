/-! The class's QueryForm: parentheses, written -/
theorem qs_j_lt : ∀ (x : List Nat) (i jt : Nat), (∀ c, c ∈ x → c < 128) → jt < 128 → qs_j x i jt < 128
  | [], _, _, _, h => h
  | c :: x, i, jt, hx, h => by
    have hx' : ∀ c, c ∈ x → c < 128 := fun c hc => hx c (List.mem_cons_of_mem _ hc)
    rw [qs_j_s]
    split
    · exact qs_j_lt x _ _ hx' h
    · split
      · exact qs_j_lt x _ _ hx' h
      · refine qs_j_lt x _ _ hx' ?_
        split
        · exact hx c List.mem_cons_self
        · exact h
theorem qd_b_last {o x : List Nat} : qd_b (o ++ x) o.length = o.getLastD 0 := by
  unfold qd_b
  cases hl : o.length with
  | zero =>
    rw [if_pos rfl, List.length_eq_zero_iff.mp hl]
    rfl
  | succ n =>
    rw [if_neg (by omega), Nat.add_sub_cancel, List.getLastD_eq_getLast?, List.getLast?_eq_getElem?, hl, Nat.add_sub_cancel, List.getD_eq_getElem?_getD, List.getElem?_append_left (by omega)]
theorem qd_mem_lt {u : List Nat} (h : ∀ i, u.getD i 0 < 128) : ∀ c, c ∈ u → c < 128 := by
  intro c hc
  obtain ⟨i, hi, he⟩ := List.getElem_of_mem hc
  have := h i
  rw [List.getD_eq_getElem?_getD, List.getElem?_eq_getElem hi, he] at this
  exact this
section QFB
variable {l : Launch} {D : va_G} {aC : Nat → ClassId} {base : Nat} {h : jjHp} {qf tx txb sb op bb mm : Nat} {t o st : List Nat}
/-- a cell of its own is put otherwise -/
theorem kx_ST.up {c : Nat} {x : va_E} (hs : kx_ST aC h tx txb t) (h1 : c ≠ tx) (h2 : c ≠ txb) : kx_ST aC (jj_up h c x) tx txb t := hs.keep (S := [c]) (jj_fr.rf.up (Or.inl List.mem_cons_self)) (fun q => h1 (List.mem_singleton.mp q).symm) (fun q => h2 (List.mem_singleton.mp q).symm)
theorem kx_SB.up {c : Nat} {x : va_E} (hs : kx_SB aC h sb bb mm o) (h1 : c ≠ sb) (h2 : c ≠ bb) : kx_SB aC (jj_up h c x) sb bb mm o := hs.keep (S := [c]) (jj_fr.rf.up (Or.inl List.mem_cons_self)) (fun q => h1 (List.mem_singleton.mp q).symm) (fun q => h2 (List.mem_singleton.mp q).symm)
theorem QFS.ne (hq : QFS aC h qf tx txb sb op bb mm t o st) : qf ≠ tx ∧ qf ≠ txb ∧ qf ≠ sb ∧ qf ≠ bb ∧ qf ≠ op ∧ op ≠ tx ∧ op ≠ sb ∧ sb ≠ tx ∧ sb ≠ txb ∧ bb ≠ tx := by
  obtain ⟨h1, ⟨hs1, hz, f, h2, h3, -⟩, ⟨ml, f', h4, h5, -⟩, ⟨F, h6, -⟩, -⟩ := hq
  refine ⟨fun q => ?_, fun q => ?_, fun q => ?_, fun q => ?_, fun q => ?_, fun q => ?_, fun q => ?_, fun q => ?_, fun q => ?_, fun q => ?_⟩
  · rw [q, h2] at h1; cases h1
  · rw [q, h3] at h1; cases h1
  · rw [q, h4] at h1; cases h1
  · rw [q, h5] at h1; cases h1
  · rw [q, h6] at h1; cases h1
  · rw [q, h2] at h6; cases h6
  · rw [q, h4] at h6; cases h6
  · rw [q, h2] at h4; cases h4
  · rw [q, h3] at h4; cases h4
  · rw [q, h2] at h5; cases h5
/-- behind a change of the written alone -/
theorem QFS.out {h' : jjHp} {bb' mm' : Nat} {o' : List Nat} (hq : QFS aC h qf tx txb sb op bb mm t o st) (hs : kx_SB aC h' sb bb' mm' o') (hb : bb' = bb ∨ h bb' = none) (hf : jj_fr [sb, bb] h h') : QFS aC h' qf tx txb sb op bb' mm' t o' st ∧ jj_fr (bb :: [qf, sb, op]) h h' := by
  have hne := hq.ne
  obtain ⟨h1, h2, h3, ⟨F, h6, h7⟩, h8, h9, h10⟩ := hq
  have hsb : ∀ c, c ≠ sb → c ≠ bb → c ∉ [sb, bb] := fun c a b q => by
    rcases List.mem_cons.mp q with q | q
    · exact a q
    · exact b (List.mem_singleton.mp q)
  have htxb : ∃ e, h txb = some e := by
    obtain ⟨_, _, _, -, h3, -⟩ := h2
    exact ⟨_, h3⟩
  refine ⟨⟨hf _ _ (hsb _ hne.2.2.1 hne.2.2.2.1) h1, h2.keep hf (hsb _ (Ne.symm hne.2.2.2.2.2.2.2.1) (Ne.symm hne.2.2.2.2.2.2.2.2.2)) (hsb _ (Ne.symm hne.2.2.2.2.2.2.2.2.1) h9), hs, ⟨F, hf _ _ (hsb _ hne.2.2.2.2.2.2.1 h8) h6, h7⟩, ?_, ?_, h10⟩, hf.mono (fun c hc => ?_)⟩
  · rcases hb with hb | hb
    · rw [hb]; exact h8
    · exact fun q => by rw [q, hb] at h6; cases h6
  · rcases hb with hb | hb
    · rw [hb]; exact h9
    · obtain ⟨e, he⟩ := htxb
      exact fun q => by rw [q, hb] at he; cases he
  · rcases List.mem_cons.mp hc with hc | hc
    · rw [hc]
      exact List.mem_cons_of_mem _ (List.mem_cons_of_mem _ List.mem_cons_self)
    · rw [List.mem_singleton.mp hc]
      exact List.mem_cons_self
/-- behind a change of depth -/
theorem QFS.dep {st' : List Nat} (hq : QFS aC h qf tx txb sb op bb mm t o st) (hst : ∃ F, h op = some (.inl (aC 0, 8, .inl F)) ∧ qf_F st' F) : QFS aC (jj_up h qf (.inr (6, [.ref tx, .ref sb, .ref op, .int (nI st'.length)]))) qf tx txb sb op bb mm t o st' := by
  have hne := hq.ne
  obtain ⟨h1, h2, h3, -, h8, h9, h10⟩ := hq
  obtain ⟨F, h6, h7⟩ := hst
  exact ⟨jj_up_s, h2.up hne.1 hne.2.1, h3.up hne.2.2.1 hne.2.2.2.1, ⟨F, (jj_up_n (Ne.symm hne.2.2.2.2.1)).trans h6, h7⟩, h8, h9, h10⟩
theorem QFS.opens {F : Nat → Int32} (hq : QFS aC h qf tx txb sb op bb mm t o st) (hF : qf_F st F) : QFS aC (jj_up h op (.inl (aC 0, 8, .inl F))) qf tx txb sb op bb mm t o st := by
  have hne := hq.ne
  obtain ⟨h1, h2, h3, -, h8, h9, h10⟩ := hq
  exact ⟨(jj_up_n hne.2.2.2.2.1).trans h1, h2.up hne.2.2.2.2.2.1 (Ne.symm h10), h3.up hne.2.2.2.2.2.2.1 h8, ⟨F, jj_up_s, hF⟩, h8, h9, h10⟩
theorem QFS.ex (hq : QFS aC h qf tx txb sb op bb mm t o st) : ∀ c, c ∈ [qf, sb, op] → ∃ e, h c = some e := by
  obtain ⟨h1, -, ⟨ml, f', h4, -⟩, ⟨F, h6, -⟩, -⟩ := hq
  intro c hc
  rcases List.mem_cons.mp hc with rfl | hc
  · exact ⟨_, h1⟩
  · rcases List.mem_cons.mp hc with rfl | hc
    · exact ⟨_, h4⟩
    · rw [List.mem_singleton.mp hc]
      exact ⟨_, h6⟩
theorem qf_open (hq : QFS aC h qf tx txb sb op bb mm t o st) (hst : st.length < 8) (hl : o.length ≤ 70) : jj_Ct l D aC base yn_QF_openParenthesis yb_QF_openParenthesis 1 none 6 1 142 [.ref qf] h (fun q h' => q = none ∧ ∃ bb' mm', QFS aC h' qf tx txb sb op bb' mm' t (o ++ [40]) (o.length :: st) ∧ (bb' = bb ∨ h bb' = none) ∧ jj_fr (bb :: [qf, sb, op]) h h') := by
  have hne := hq.ne
  have hq0 := hq
  obtain ⟨h1, h2, h3, ⟨F, h6, h7⟩, h8, h9, h10⟩ := hq
  obtain ⟨fs, hr⟩ := h3.recv
  refine jj_start (tb := tb_QF_openParenthesis) (by decide) tg_QF_openParenthesis (Nat.le_of_ble_eq_true rfl) ?_
  intro p e s m args below meth cc C
  refine jj_go C 1 rfl ?_
  refine jj_getf C rfl fl_QF_22 h1 rfl ?_
  refine jj_go C 1 rfl ?_
  refine jj_if C rfl (fun z => absurd ((nI_leI (a := 8) (b := st.length) (by decide) (by omega)).mp z) (by omega)) (fun _ => ?_)
  refine jj_go C 1 rfl ?_
  refine jj_getf C rfl fl_QF_18 h1 rfl ?_
  refine jj_go C 1 rfl ?_
  refine jj_getf C rfl fl_QF_22 h1 rfl ?_
  refine jj_go C 1 rfl ?_
  refine jj_getf C rfl fl_QF_12 h1 rfl ?_
  refine jj_callV C rfl ml_QF_51 wd_138 hr rfl se_SB_SB_length (kt_SB_length h3) (rest := [.int (nI st.length), .ref op]) rfl rfl ⟨Nat.le_of_ble_eq_true rfl, Nat.le_of_ble_eq_true rfl⟩ (Nat.le_of_ble_eq_true rfl) (Nat.le_of_ble_eq_true rfl) (Nat.le_of_ble_eq_true rfl) ?_
  rintro q9 h9 ⟨rfl, hh9⟩
  rw [hh9]
  refine jj_iast C (n := 8) (f := F) (j := st.length) rfl h6 rfl hst (by decide) ?_
  have hq1 := hq0.opens (F := upd F st.length (nI o.length)) (qf_F_u st (Nat.le_refl _) h7)
  have hf1 : jj_fr (bb :: [qf, sb, op]) h (jj_up h op (.inl (aC 0, 8, .inl (upd F st.length (nI o.length))))) := jj_fr.rf.up (Or.inl (by simp))
  have h61 : (jj_up h op (.inl (aC 0, 8, .inl (upd F st.length (nI o.length))))) op = some (.inl (aC 0, 8, .inl (upd F st.length (nI o.length)))) := jj_up_s
  have hbb1 : ∀ c, (jj_up h op (.inl (aC 0, 8, .inl (upd F st.length (nI o.length))))) c = none → h c = none := by
    intro c hc
    by_cases hco : c = op
    · rw [hco, jj_up_s] at hc
      cases hc
    · rw [jj_up_n hco] at hc
      exact hc
  generalize jj_up h op (.inl (aC 0, 8, .inl (upd F st.length (nI o.length)))) = g1 at hq1 hf1 h61 hbb1 ⊢
  refine jj_go C 2 rfl ?_
  refine jj_getf C rfl fl_QF_22 hq1.1 rfl ?_
  refine jj_go C 2 rfl ?_
  refine jj_top (nI_1 st.length) ?_
  refine jj_putf C rfl fl_QF_22 hq1.1 rfl rfl (Nat.le_of_ble_eq_true rfl) ?_
  have hq2 := hq1.dep (st' := o.length :: st) ⟨_, h61, by unfold upd; rw [if_pos rfl], qf_F_u st (Nat.le_refl _) h7⟩
  have hf2 : jj_fr (bb :: [qf, sb, op]) h (jj_up g1 qf (.inr (6, [.ref tx, .ref sb, .ref op, .int (nI (o.length :: st).length)]))) := hf1.up (Or.inl (by simp))
  have hbb2 : ∀ c, (jj_up g1 qf (.inr (6, [.ref tx, .ref sb, .ref op, .int (nI (o.length :: st).length)]))) c = none → h c = none := by
    intro c hc
    by_cases hco : c = qf
    · rw [hco, jj_up_s] at hc
      cases hc
    · rw [jj_up_n hco] at hc
      exact hbb1 c hc
  refine jj_eq (h' := jj_up g1 qf (.inr (6, [.ref tx, .ref sb, .ref op, .int (nI (o.length :: st).length)]))) rfl rfl rfl rfl ?_
  generalize jj_up g1 qf (.inr (6, [.ref tx, .ref sb, .ref op, .int (nI (o.length :: st).length)])) = g2 at hq2 hf2 hbb2 ⊢
  obtain ⟨fs2, hr2⟩ := hq2.2.2.1.recv
  refine jj_go C 1 rfl ?_
  refine jj_getf C rfl fl_QF_12 hq2.1 rfl ?_
  refine jj_go C 1 rfl ?_
  refine jj_callV C rfl ml_QF_55 wd_145 hr2 rfl se_SB_SB_append (kt_SB_append (k := 40) hq2.2.2.1 hl (by decide)) (rest := []) rfl rfl ⟨Nat.le_of_ble_eq_true rfl, Nat.le_of_ble_eq_true rfl⟩ (Nat.le_of_ble_eq_true rfl) (Nat.le_of_ble_eq_true rfl) (Nat.le_of_ble_eq_true rfl) ?_
  rintro q9 g3 ⟨rfl, b', m', hs3, hb3, hf3⟩
  obtain ⟨hq3, hf3⟩ := hq2.out hs3 hb3 hf3
  refine jj_go C 1 rfl ?_
  refine jj_vret C rfl rfl (Nat.le_of_ble_eq_true rfl) (Nat.le_of_ble_eq_true rfl) ⟨rfl, b', m', hq3, ?_, (qf_tr hf2 hq2.ex (Or.inl rfl) hf3 (Or.inl rfl)).1⟩
  rcases hb3 with hb3 | hb3
  · exact Or.inl hb3
  · exact Or.inr (hbb2 _ hb3)
theorem qf_close {x : List Nat} {b j e0 : Nat} (hq : QFS aC h qf tx txb sb op bb mm t (o ++ 40 :: x) (o.length :: st)) (hst : st.length < 8) (hb : o.getLastD 0 = b) (hj : qs_j x 0 0 = j) (hbal : qs_b x 0) (he : e0 < 128) (hl : (o ++ 40 :: x).length ≤ 70) : jj_Ct l D aC base yn_QF_closeParenthesis yb_QF_closeParenthesis 3 none 6 1 142 [.ref qf, .int (nI e0)] h (fun q h' => q = none ∧ ∃ bb' mm', QFS aC h' qf tx txb sb op bb' mm' t (if qq_nd b j e0 = true then o ++ 40 :: (x ++ [41]) else o ++ x) st ∧ (bb' = bb ∨ h bb' = none) ∧ jj_fr (bb :: [qf, sb, op]) h h') := by
  have hq0 := hq
  obtain ⟨h1, h2, h3, ⟨F, h6, h7⟩, h8, h9, h10⟩ := hq
  have hlt := h3.lt
  have hmem := qd_mem_lt hlt
  have hj128 : j < 128 := by
    rw [← hj]
    exact qs_j_lt x 0 0 (fun c hc => hmem c (List.mem_append_right _ (List.mem_cons_of_mem _ hc))) (by decide)
  have hb128 : b < 128 := by
    rw [← hb, ← qd_b_last (x := 40 :: x)]
    exact qd_b_lt hlt
  have hol : o.length < (o ++ 40 :: x).length := by
    rw [List.length_append, List.length_cons]
    omega
  refine jj_start (tb := tb_QF_closeParenthesis) (by decide) tg_QF_closeParenthesis (Nat.le_of_ble_eq_true rfl) ?_
  intro p e s m args below meth cc C
  refine jj_go C 1 rfl ?_
  refine jj_getf C rfl fl_QF_22 h1 rfl ?_
  refine jj_if C rfl (fun z => absurd ((nI_eq (a := st.length + 1) (b := 0) (by omega) (by decide)).mp z) (by omega)) (fun _ => ?_)
  refine jj_go C 2 rfl ?_
  refine jj_getf C rfl fl_QF_22 h1 rfl ?_
  refine jj_go C 2 rfl ?_
  refine jj_top (show nI (o.length :: st).length - 1 = nI st.length from pk_sub (a := st.length + 1) (b := 1) (by omega)) ?_
  refine jj_putf C rfl fl_QF_22 h1 rfl rfl (Nat.le_of_ble_eq_true rfl) ?_
  have hq1 := hq0.dep (st' := st) ⟨F, h6, h7.2⟩
  have hf1 : jj_fr (bb :: [qf, sb, op]) h (jj_up h qf (.inr (6, [.ref tx, .ref sb, .ref op, .int (nI st.length)]))) := jj_fr.rf.up (Or.inl (by simp))
  have hbb1 : ∀ c, (jj_up h qf (.inr (6, [.ref tx, .ref sb, .ref op, .int (nI st.length)]))) c = none → h c = none := by
    intro c hc
    by_cases hco : c = qf
    · rw [hco, jj_up_s] at hc
      cases hc
    · rw [jj_up_n hco] at hc
      exact hc
  have h61 : (jj_up h qf (.inr (6, [.ref tx, .ref sb, .ref op, .int (nI st.length)]))) op = some (.inl (aC 0, 8, .inl F)) := (jj_up_n (Ne.symm hq0.ne.2.2.2.2.1)).trans h6
  refine jj_eq (h' := jj_up h qf (.inr (6, [.ref tx, .ref sb, .ref op, .int (nI st.length)]))) rfl rfl rfl rfl ?_
  generalize jj_up h qf (.inr (6, [.ref tx, .ref sb, .ref op, .int (nI st.length)])) = g1 at hq1 hf1 hbb1 h61 ⊢
  have ho1 := hq1.1
  have hs1 := hq1.2.2.1
  obtain ⟨fs1, hr1⟩ := hs1.recv
  refine jj_go C 1 rfl ?_
  refine jj_getf C rfl fl_QF_18 ho1 rfl ?_
  refine jj_go C 1 rfl ?_
  refine jj_getf C rfl fl_QF_22 ho1 rfl ?_
  refine jj_iald C (n := 8) (f := F) (j := st.length) rfl h61 rfl hst (by decide) ?_
  refine jj_top h7.1 ?_
  refine jj_go C 3 rfl ?_
  refine jj_callV C rfl ml_QF_52 wd_658 ho1 rfl se_QF_QF_lastBefore (qf_lastBefore (n := o.length) ho1 hs1 (by omega) (by omega)) (rest := []) rfl rfl ⟨Nat.le_of_ble_eq_true rfl, Nat.le_of_ble_eq_true rfl⟩ (Nat.le_of_ble_eq_true rfl) (Nat.le_of_ble_eq_true rfl) (Nat.le_of_ble_eq_true rfl) ?_
  rintro q9 h9 ⟨rfl, hh9⟩
  rw [hh9]
  rw [qd_b_last, hb]
  refine jj_go C 4 rfl ?_
  refine jj_top (nI_1 o.length) ?_
  refine jj_callV C rfl ml_QF_63 wd_672 ho1 rfl se_QF_QF_jointFrom (qf_jointFrom (n := o.length + 1) (x := x) ho1 hs1 (by rw [← List.drop_drop, List.drop_left]; rfl) (by omega) (by omega) hbal hj hj128) (rest := [.int (nI b)]) rfl rfl ⟨Nat.le_of_ble_eq_true rfl, Nat.le_of_ble_eq_true rfl⟩ (Nat.le_of_ble_eq_true rfl) (Nat.le_of_ble_eq_true rfl) (Nat.le_of_ble_eq_true rfl) ?_
  rintro q9 h9 ⟨rfl, hh9⟩
  rw [hh9]
  refine jj_go C 1 rfl ?_
  refine jj_callS C rfl ml_QF_66 wd_675 (qf_isNeeded (b := b) (j := j) (e0 := e0) hb128 hj128 he) (rest := []) rfl rfl ⟨Nat.le_of_ble_eq_true rfl, Nat.le_of_ble_eq_true rfl⟩ (Nat.le_of_ble_eq_true rfl) (Nat.le_of_ble_eq_true rfl) (Nat.le_of_ble_eq_true rfl) ?_
  rintro q9 h9 ⟨rfl, hh9⟩
  rw [hh9]
  cases hn : qq_nd b j e0 with
  | false =>
    refine jj_if C rfl (fun _ => ?_) (fun z => absurd rfl z)
    refine jj_go C 1 rfl ?_
    refine jj_getf C rfl fl_QF_12 ho1 rfl ?_
    refine jj_go C 1 rfl ?_
    refine jj_callV C rfl ml_QF_70 wd_678 hr1 rfl se_SB_SB_deleteCharAt (kt_SB_deleteCharAt (i := o.length) hs1 hol) (rest := []) rfl rfl ⟨Nat.le_of_ble_eq_true rfl, Nat.le_of_ble_eq_true rfl⟩ (Nat.le_of_ble_eq_true rfl) (Nat.le_of_ble_eq_true rfl) (Nat.le_of_ble_eq_true rfl) ?_
    rintro q9 g3 ⟨rfl, hs3, hf3⟩
    rw [show (o ++ 40 :: x).eraseIdx o.length = o ++ x by rw [List.eraseIdx_append_of_length_le (Nat.le_refl _), Nat.sub_self]; rfl] at hs3
    obtain ⟨hq3, hf3⟩ := hq1.out hs3 (Or.inl rfl) hf3
    refine jj_go C 1 rfl ?_
    exact jj_vret C rfl rfl (Nat.le_of_ble_eq_true rfl) (Nat.le_of_ble_eq_true rfl) ⟨rfl, bb, mm, by rw [if_neg (by decide)]; exact hq3, Or.inl rfl, (qf_tr hf1 hq1.ex (Or.inl rfl) hf3 (Or.inl rfl)).1⟩
  | true =>
    refine jj_if C rfl (fun z => absurd z (by decide)) (fun _ => ?_)
    refine jj_go C 1 rfl ?_
    refine jj_getf C rfl fl_QF_12 ho1 rfl ?_
    refine jj_go C 1 rfl ?_
    refine jj_callV C rfl ml_QF_55 wd_145 hr1 rfl se_SB_SB_append (kt_SB_append (k := 41) hs1 hl (by decide)) (rest := []) rfl rfl ⟨Nat.le_of_ble_eq_true rfl, Nat.le_of_ble_eq_true rfl⟩ (Nat.le_of_ble_eq_true rfl) (Nat.le_of_ble_eq_true rfl) (Nat.le_of_ble_eq_true rfl) ?_
    rintro q9 g3 ⟨rfl, b', m', hs3, hb3, hf3⟩
    obtain ⟨hq3, hf3⟩ := hq1.out hs3 hb3 hf3
    refine jj_go C 2 rfl ?_
    refine jj_vret C rfl rfl (Nat.le_of_ble_eq_true rfl) (Nat.le_of_ble_eq_true rfl) ⟨rfl, b', m', ?_, ?_, (qf_tr hf1 hq1.ex (Or.inl rfl) hf3 (Or.inl rfl)).1⟩
    · rw [if_pos rfl, show o ++ 40 :: (x ++ [41]) = o ++ 40 :: x ++ [41] by simp]
      exact hq3
    · rcases hb3 with hb3 | hb3
      · exact Or.inl hb3
      · exact Or.inr (hbb1 _ hb3)
end QFB
