/-! Contracts of the JDK's methods: length, isLatin1, canEncode, min, max; a new StringBuilder -/
abbrev kx_sb (b : Nat) (ml n : Int32) : va_E := .inr (11, [.ref b, .int 0, .int ml, .int n])
abbrev kx_st (b : Nat) (hs hz : Int32) : va_E := .inr (10, [.ref b, .int 0, .int hs, .int hz])
abbrev kx_ba (aC : Nat → ClassId) (n : Nat) (f : Nat → Int32) : va_E := .inl (aC 4, n, .inl f)
section KX
variable {l : Launch} {D : va_G} {aC : Nat → ClassId} {base : Nat} {h : jjHp}
theorem kx_AS_length {a b : Nat} {ml n : Int32} (ho : h a = some (kx_sb b ml n)) : jj_Ct l D aC base yn_AS_length yb_AS_length 1 (some .int) 0 0 0 [.ref a] h (fun r h' => r = some (.int n) ∧ h' = h) := by
  refine jj_start (tb := tb_AS_length) (by decide) tg_AS_length (Nat.le_of_ble_eq_true rfl) ?_
  intro p e s m args below meth c C
  refine jj_go C 1 rfl ?_
  refine jj_getf C rfl fl_AS_79 ho rfl ?_
  exact jj_iret C rfl rfl rfl (Nat.le_refl _) (Nat.le_refl _) ⟨rfl, rfl⟩
theorem kx_SB_length {a b : Nat} {ml n : Int32} (ho : h a = some (kx_sb b ml n)) : jj_Ct l D aC base yn_SB_length yb_SB_length 1 (some .int) 1 0 0 [.ref a] h (fun r h' => r = some (.int n) ∧ h' = h) := by
  refine jj_start (tb := tb_SB_length) (by decide) tg_SB_length (Nat.le_of_ble_eq_true rfl) ?_
  intro p e s m args below meth c C
  refine jj_go C 1 rfl ?_
  refine jj_callP C rfl ho rfl ms_SB_343 (kx_AS_length ho) (rest := []) rfl rfl ⟨Nat.le_refl _, Nat.le_of_ble_eq_true rfl⟩ (Nat.le_refl _) (Nat.le_refl _) (Nat.zero_le _) ?_
  rintro r h' ⟨rfl, rfl⟩
  exact jj_iret C rfl rfl rfl (Nat.le_refl _) (Nat.le_refl _) ⟨rfl, rfl⟩
theorem kx_AS_isLatin1 {a b : Nat} {ml n : Int32} (ho : h a = some (kx_sb b ml n)) : jj_Ct l D aC base yn_AS_isLatin1 yb_AS_isLatin1 1 (some .boolean) 0 0 0 [.ref a] h (fun r h' => r = some (.int 1) ∧ h' = h) := by
  refine jj_start (tb := tb_AS_isLatin1) (by decide) tg_AS_isLatin1 (Nat.le_of_ble_eq_true rfl) ?_
  intro p e s m args below meth c C
  refine jj_gets C rfl wd_40 ?_
  refine jj_if C rfl (fun hc => absurd hc (by decide)) (fun _ => ?_)
  refine jj_go C 1 rfl ?_
  refine jj_getf C rfl fl_AS_22 ho rfl ?_
  refine jj_if C rfl (fun _ => ?_) (fun hc => absurd rfl hc)
  refine jj_go C 2 rfl ?_
  exact jj_iret C rfl rfl rfl (Nat.le_refl _) (Nat.le_refl _) ⟨rfl, rfl⟩
theorem kx_AS_getValue {a b : Nat} {ml n : Int32} (ho : h a = some (kx_sb b ml n)) : jj_Ct l D aC base yn_AS_getValue yb_AS_getValue 1 (some (.array .byte)) 0 0 0 [.ref a] h (fun r h' => r = some (.ref b) ∧ h' = h) := by
  refine jj_start (tb := tb_AS_getValue) (by decide) tg_AS_getValue (Nat.le_of_ble_eq_true rfl) ?_
  intro p e s m args below meth c C
  refine jj_go C 1 rfl ?_
  refine jj_getf C rfl fl_AS_15 ho rfl ?_
  exact jj_aret C rfl rfl (Or.inr ⟨_, rfl⟩) (Or.inr ⟨_, rfl⟩) (Nat.le_refl _) (Nat.le_refl _) ⟨rfl, rfl⟩
theorem kx_SL_canEncode {k : Nat} (hk : k < 256) : jj_Ct l D aC base yn_SL_canEncode1 yb_SL_canEncode1 1 (some .boolean) 0 0 0 [.int (nI k)] h (fun r h' => r = some (.int 1) ∧ h' = h) := by
  refine jj_start (tb := tb_SL_canEncode1) (by decide) tg_SL_canEncode1 (Nat.le_of_ble_eq_true rfl) ?_
  intro p e s m args below meth c C
  refine jj_go C 2 rfl ?_
  refine jj_if C rfl (fun hc => absurd hc (show ¬ nI 255 < nI k from nI_nlt (by omega) (by decide))) (fun _ => ?_)
  refine jj_go C 2 rfl ?_
  exact jj_iret C rfl rfl rfl (Nat.le_refl _) (Nat.le_refl _) ⟨rfl, rfl⟩
theorem kx_AS_init {a : Nat} (ho : h a = some (.inr (11, [.null, .int 0, .int 0, .int 0]))) : jj_Ct l D aC base yn_AS_init yb_AS_init 2 none 1 1 16 [.ref a, .int 16] h (fun r h' => r = none ∧ ∃ b, h b = none ∧ h' = jj_up (jj_up h b (kx_ba aC 16 (fun _ => 0))) a (kx_sb b 0 0)) := by
  refine jj_start (tb := tb_AS_init) (by decide) tg_AS_init (Nat.le_of_ble_eq_true rfl) ?_
  intro p e s m args below meth c C
  refine jj_go C 1 rfl ?_
  refine jj_objI C rfl wd_39 wd_29 wd_30 ⟨Nat.le_of_ble_eq_true rfl, Nat.le_of_ble_eq_true rfl⟩ (Nat.zero_le _) ?_
  refine jj_gets C rfl wd_40 ?_
  refine jj_if C rfl (fun hc => absurd hc (by decide)) (fun _ => ?_)
  refine jj_go C 2 rfl ?_
  refine jj_newa C 4 (a0 := (16, .inl (fun _ => 0))) rfl wd_63 rfl rfl (fun _ => rfl) rfl (by decide) (Nat.le_of_ble_eq_true rfl) (Nat.le_of_ble_eq_true rfl) (fun b hb => ?_)
  refine jj_putf C rfl fl_AS_15 (jj_up_f hb ho) rfl rfl (Nat.le_of_ble_eq_true rfl) ?_
  refine jj_go C 2 rfl ?_
  refine jj_putf C rfl fl_AS_22 jj_up_s rfl rfl (Nat.le_of_ble_eq_true rfl) ?_
  refine jj_go C 1 rfl ?_
  refine jj_vret C rfl rfl (Nat.le_of_ble_eq_true rfl) (Nat.le_of_ble_eq_true rfl) ⟨rfl, b, hb, ?_⟩
  rw [jj_up_up]
  rfl
theorem kx_SB_init {a : Nat} (ho : h a = some (.inr (11, [.null, .int 0, .int 0, .int 0]))) : jj_Ct l D aC base yn_SB_init yb_SB_init 1 none 2 1 16 [.ref a] h (fun r h' => r = none ∧ ∃ b, h b = none ∧ h' = jj_up (jj_up h b (kx_ba aC 16 (fun _ => 0))) a (kx_sb b 0 0)) := by
  refine jj_start (tb := tb_SB_init) (by decide) tg_SB_init (Nat.le_of_ble_eq_true rfl) ?_
  intro p e s m args below meth c C
  refine jj_go C 2 rfl ?_
  refine jj_callI C rfl ml_SB_1 wd_37 rfl (kx_AS_init ho) (rest := []) rfl rfl ⟨Nat.le_refl _, Nat.le_of_ble_eq_true rfl⟩ (Nat.le_refl _) (Nat.le_refl _) (Nat.zero_le _) ?_
  rintro r h' ⟨rfl, hp⟩
  exact jj_vret C rfl rfl (Nat.le_refl _) (Nat.le_refl _) ⟨rfl, hp⟩
end KX
