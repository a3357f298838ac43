/-! StringBuilder: charAt, deleteCharAt -/
section KD
variable {l : Launch} {D : va_G} {aC : Nat → ClassId} {base : Nat} {h : jjHp}
theorem kt_AS_charAt {a b mm i : Nat} {t : List Nat} (hs : kx_SB aC h a b mm t) (hi : i < t.length) : jj_Ct l D aC base yn_AS_charAt yb_AS_charAt 5 (some .char) 2 0 0 [.ref a, .int (nI i)] h (fun r h' => r = some (.int (nI (t.getD i 0))) ∧ h' = h) := by
  obtain ⟨ml, f, ho, hv, htx, hfit, hle, hmm⟩ := hs
  obtain ⟨hf1, hk⟩ := htx i hi
  refine jj_start (tb := tb_AS_charAt) (by decide) tg_AS_charAt (Nat.le_of_ble_eq_true rfl) ?_
  intro p e s m args below meth cc C
  refine jj_go C 1 rfl ?_
  refine jj_getf C rfl fl_AS_22 ho rfl ?_
  refine jj_go C 2 rfl ?_
  refine jj_getf C rfl fl_AS_15 ho rfl ?_
  refine jj_go C 2 rfl ?_
  refine jj_getf C rfl fl_AS_79 ho rfl ?_
  refine jj_go C 1 rfl ?_
  refine jj_alen C 4 rfl hv rfl ?_
  refine jj_go C 2 rfl ?_
  refine jj_top (sb_shr0 _) ?_
  refine jj_mmin C rfl wd_667 wd_181 wd_9 wd_182 (Nat.le_of_ble_eq_true rfl) (Nat.le_of_ble_eq_true rfl) (Nat.le_refl _) (Nat.le_refl _) ?_
  refine jj_top (if_neg (nI_nlt (by omega) (by omega))) ?_
  refine jj_go C 3 rfl ?_
  refine jj_callS C rfl ml_AS_144 wd_234 (kx_ST_checkIndex (i := i) (n := t.length) hi (by omega)) (rest := []) rfl rfl ⟨Nat.le_of_ble_eq_true rfl, Nat.le_of_ble_eq_true rfl⟩ (Nat.le_of_ble_eq_true rfl) (Nat.le_of_ble_eq_true rfl) (Nat.le_of_ble_eq_true rfl) ?_
  rintro q9 h9 ⟨rfl, hh9⟩
  rw [hh9]
  refine jj_go C 1 rfl ?_
  refine jj_if C rfl (fun _ => ?_) (fun z => absurd rfl z)
  refine jj_go C 2 rfl ?_
  refine jj_bald C rfl hv rfl (show i < mm by omega) (by omega) ?_
  refine jj_top hf1 ?_
  refine jj_go C 3 rfl ?_
  refine jj_top (ky_and _ hk) ?_
  exact jj_iret C rfl rfl (congrArg Value.int (ky_char _ hk)) (Nat.le_of_ble_eq_true rfl) (Nat.le_of_ble_eq_true rfl) ⟨rfl, rfl⟩
theorem kt_SB_charAt {a b mm i : Nat} {t : List Nat} (hs : kx_SB aC h a b mm t) (hi : i < t.length) : jj_Ct l D aC base yn_SB_charAt yb_SB_charAt 2 (some .char) 3 0 0 [.ref a, .int (nI i)] h (fun r h' => r = some (.int (nI (t.getD i 0))) ∧ h' = h) := by
  obtain ⟨fs, ho⟩ := hs.recv
  have hk : t.getD i 0 < 128 := by
    obtain ⟨ml, f, -, -, htx, -⟩ := hs
    exact (htx i hi).2
  refine jj_start (tb := tb_SB_charAt) (by decide) tg_SB_charAt (Nat.le_of_ble_eq_true rfl) ?_
  intro p e s m args below meth cc C
  refine jj_go C 2 rfl ?_
  refine jj_callP C rfl ho rfl ms_SB_329 (kt_AS_charAt hs hi) (rest := []) rfl rfl ⟨(Nat.le_of_ble_eq_true rfl), (Nat.le_of_ble_eq_true rfl)⟩ (Nat.le_of_ble_eq_true rfl) (Nat.le_of_ble_eq_true rfl) (Nat.le_of_ble_eq_true rfl) ?_
  rintro q9 h9 ⟨rfl, hh9⟩
  rw [hh9]
  exact jj_iret C rfl rfl (congrArg Value.int (ky_char _ hk)) (Nat.le_of_ble_eq_true rfl) (Nat.le_of_ble_eq_true rfl) ⟨rfl, rfl⟩
theorem kx_AS_shift {a b mm n i : Nat} {ml : Int32} {f : Nat → Int32} (ho : h a = some (kx_sb b ml (nI n))) (hv : h b = some (kx_ba aC mm f)) (hfit : sb_Fit f) (hi : i < n) (hn : n ≤ mm) (hmm : mm ≤ 142) : jj_Ct l D aC base yn_AS_shift yb_AS_shift 3 none 1 0 0 [.ref a, .int (nI (i + 1)), .int (-1)] h (fun r h' => r = none ∧ h' = jj_up h b (kx_ba aC mm (va_cpy f f (i + 1) i (n - (i + 1))))) := by
  refine jj_start (tb := tb_AS_shift) (by decide) tg_AS_shift (Nat.le_of_ble_eq_true rfl) ?_
  intro p e s m args below meth cc C
  refine jj_go C 1 rfl ?_
  refine jj_getf C rfl fl_AS_15 ho rfl ?_
  refine jj_go C 2 rfl ?_
  refine jj_getf C rfl fl_AS_22 ho rfl ?_
  refine jj_go C 1 rfl ?_
  refine jj_top (sb_shl0 _) ?_
  refine jj_go C 1 rfl ?_
  refine jj_getf C rfl fl_AS_15 ho rfl ?_
  refine jj_go C 3 rfl ?_
  refine jj_top (nI_m1 (j := i)) ?_
  refine jj_go C 1 rfl ?_
  refine jj_getf C rfl fl_AS_22 ho rfl ?_
  refine jj_go C 1 rfl ?_
  refine jj_top (sb_shl0 _) ?_
  refine jj_go C 1 rfl ?_
  refine jj_getf C rfl fl_AS_79 ho rfl ?_
  refine jj_go C 2 rfl ?_
  refine jj_top (pk_sub (a := n) (b := i + 1) (by omega)) ?_
  refine jj_go C 1 rfl ?_
  refine jj_getf C rfl fl_AS_22 ho rfl ?_
  refine jj_go C 1 rfl ?_
  refine jj_top (sb_shl0 _) ?_
  refine jj_acopy C (j0 := i + 1) (j1 := i) (n := n - (i + 1)) rfl wd_688 wd_185 wd_184 wd_11 hv hv rfl rfl rfl (by omega) (by omega) (by omega) (by omega) (fun i _ => hfit _) (Nat.le_refl _) (Nat.le_of_ble_eq_true rfl) ?_
  exact jj_vret C rfl rfl (Nat.le_of_ble_eq_true rfl) (Nat.le_of_ble_eq_true rfl) ⟨rfl, rfl⟩
theorem kt_AS_deleteCharAt {a b mm i : Nat} {t : List Nat} (hs : kx_SB aC h a b mm t) (hi : i < t.length) : jj_Ct l D aC base yn_AS_deleteCharAt yb_AS_deleteCharAt 2 (some (.object "java/lang/AbstractStringBuilder")) 2 0 0 [.ref a, .int (nI i)] h (fun r h' => r = some (.ref a) ∧ kx_SB aC h' a b mm (t.eraseIdx i) ∧ jj_fr [a, b] h h') := by
  obtain ⟨ml, f, ho, hv, htx, hfit, hle, hmm⟩ := hs
  have hne : a ≠ b := fun q => by rw [q, hv] at ho; cases ho
  have hl : (t.eraseIdx i).length = t.length - 1 := List.length_eraseIdx_of_lt hi
  refine jj_start (tb := tb_AS_deleteCharAt) (by decide) tg_AS_deleteCharAt (Nat.le_of_ble_eq_true rfl) ?_
  intro p e s m args below meth cc C
  refine jj_go C 2 rfl ?_
  refine jj_getf C rfl fl_AS_79 ho rfl ?_
  refine jj_callS C rfl ml_AS_144 wd_234 (kx_ST_checkIndex (i := i) (n := t.length) hi (by omega)) (rest := []) rfl rfl ⟨Nat.le_of_ble_eq_true rfl, Nat.le_of_ble_eq_true rfl⟩ (Nat.le_of_ble_eq_true rfl) (Nat.le_of_ble_eq_true rfl) (Nat.le_of_ble_eq_true rfl) ?_
  rintro q9 h9 ⟨rfl, hh9⟩
  rw [hh9]
  refine jj_go C 4 rfl ?_
  refine jj_top (nI_1 i) ?_
  refine jj_go C 1 rfl ?_
  refine jj_callV C rfl ml_AS_283 wd_686 ho rfl se_SB_AS_shift (kx_AS_shift ho hv hfit hi hle hmm) (rest := []) rfl rfl ⟨Nat.le_of_ble_eq_true rfl, Nat.le_of_ble_eq_true rfl⟩ (Nat.le_of_ble_eq_true rfl) (Nat.le_of_ble_eq_true rfl) (Nat.le_of_ble_eq_true rfl) ?_
  rintro q9 h9 ⟨rfl, hh9⟩
  rw [hh9]
  have ho1 : jj_up h b (kx_ba aC mm (va_cpy f f (i + 1) i (t.length - (i + 1)))) a = some (kx_sb b ml (nI t.length)) := (jj_up_n hne).trans ho
  have hv1 : jj_up h b (kx_ba aC mm (va_cpy f f (i + 1) i (t.length - (i + 1)))) b = some (kx_ba aC mm (va_cpy f f (i + 1) i (t.length - (i + 1)))) := jj_up_s
  have hfr1 : jj_fr [a, b] h (jj_up h b (kx_ba aC mm (va_cpy f f (i + 1) i (t.length - (i + 1))))) := jj_fr.rf.up (Or.inl (List.mem_cons_of_mem _ List.mem_cons_self))
  generalize jj_up h b (kx_ba aC mm (va_cpy f f (i + 1) i (t.length - (i + 1)))) = h1 at ho1 hv1 hfr1 ⊢
  refine jj_go C 2 rfl ?_
  refine jj_getf C rfl fl_AS_79 ho1 rfl ?_
  refine jj_go C 2 rfl ?_
  refine jj_top (show nI t.length - 1 = nI (t.length - 1) from pk_sub (b := 1) (by omega)) ?_
  refine jj_putf C rfl fl_AS_79 ho1 rfl rfl (Nat.le_of_ble_eq_true rfl) ?_
  have ho2 : jj_up h1 a (.inr (11, [.ref b, .int 0, .int ml, .int (nI (t.length - 1))])) a = some (kx_sb b ml (nI (t.length - 1))) := jj_up_s
  have hv2 : jj_up h1 a (.inr (11, [.ref b, .int 0, .int ml, .int (nI (t.length - 1))])) b = some (kx_ba aC mm (va_cpy f f (i + 1) i (t.length - (i + 1)))) := (jj_up_n (Ne.symm hne)).trans hv1
  have hfr2 : jj_fr [a, b] h (jj_up h1 a (.inr (11, [.ref b, .int 0, .int ml, .int (nI (t.length - 1))]))) := hfr1.up (Or.inl List.mem_cons_self)
  refine jj_eq (h' := jj_up h1 a (.inr (11, [.ref b, .int 0, .int ml, .int (nI (t.length - 1))]))) rfl rfl rfl rfl ?_
  generalize jj_up h1 a (.inr (11, [.ref b, .int 0, .int ml, .int (nI (t.length - 1))])) = h2 at ho2 hv2 hfr2 ⊢
  refine jj_go C 2 rfl ?_
  refine jj_putf C rfl fl_AS_73 ho2 rfl rfl (Nat.le_of_ble_eq_true rfl) ?_
  refine jj_go C 1 rfl ?_
  refine jj_aret C rfl rfl (Or.inl ⟨_, rfl⟩) (Or.inr ⟨_, rfl⟩) (Nat.le_of_ble_eq_true rfl) (Nat.le_of_ble_eq_true rfl) ⟨rfl, ⟨1, va_cpy f f (i + 1) i (t.length - (i + 1)), ?_, ?_, ?_, sb_fitC hfit hfit, by omega, hmm⟩, hfr2.up (Or.inl List.mem_cons_self)⟩
  · rw [jj_up_s, hl]
    rfl
  · rw [jj_up_n (Ne.symm hne)]
    exact hv2
  · intro j hj
    rw [hl] at hj
    unfold va_cpy
    rw [List.getD_eq_getElem?_getD, List.getElem?_eraseIdx]
    by_cases hji : j < i
    · rw [if_neg (by omega), if_pos hji, ← List.getD_eq_getElem?_getD]
      exact htx j (by omega)
    · rw [if_pos (by omega), if_neg hji, ← List.getD_eq_getElem?_getD, show i + 1 + (j - i) = j + 1 by omega]
      exact htx (j + 1) (by omega)
theorem kt_SB_deleteCharAt {a b mm i : Nat} {t : List Nat} (hs : kx_SB aC h a b mm t) (hi : i < t.length) : jj_Ct l D aC base yn_SB_deleteCharAt yb_SB_deleteCharAt 2 (some (.object "java/lang/StringBuilder")) 3 0 0 [.ref a, .int (nI i)] h (fun r h' => r = some (.ref a) ∧ kx_SB aC h' a b mm (t.eraseIdx i) ∧ jj_fr [a, b] h h') := by
  obtain ⟨fs, ho⟩ := hs.recv
  refine jj_start (tb := tb_SB_deleteCharAt) (by decide) tg_SB_deleteCharAt (Nat.le_of_ble_eq_true rfl) ?_
  intro p e s m args below meth cc C
  refine jj_go C 2 rfl ?_
  refine jj_callP C rfl ho rfl ms_SB_72 (kt_AS_deleteCharAt hs hi) (rest := []) rfl rfl ⟨(Nat.le_of_ble_eq_true rfl), (Nat.le_of_ble_eq_true rfl)⟩ (Nat.le_of_ble_eq_true rfl) (Nat.le_of_ble_eq_true rfl) (Nat.le_of_ble_eq_true rfl) ?_
  rintro q9 h9 ⟨rfl, hs9, hf9⟩
  refine jj_go C 2 rfl ?_
  exact jj_aret C rfl rfl (Or.inl ⟨_, rfl⟩) (Or.inr ⟨_, rfl⟩) (Nat.le_of_ble_eq_true rfl) (Nat.le_of_ble_eq_true rfl) ⟨rfl, hs9, hf9⟩
end KD
