/-! StringBuilder: append within the capacity -/
theorem ky_sub {a b : Nat} (ha : a < 2 ^ 30) (hb : b < 2 ^ 30) : nI a - nI b ≤ 0 ↔ a ≤ b := by
  rw [Int32.le_iff_toInt_le, pk_sub_toInt ha hb, Int32.toInt_zero]
  omega
theorem ky_byte : ∀ k, k < 128 → vp_nar .byte (nI k).toInt8.toInt32 = nI k := by decide +kernel
theorem ky_fit : ∀ k, k < 128 → fits .byte (.int (nI k)) = true := by decide +kernel
theorem ky_and : ∀ k, k < 128 → ((nI k &&& 255).toUInt32 % 65536).toInt32 = nI k := by decide +kernel
section KY
variable {l : Launch} {D : va_G} {aC : Nat → ClassId} {base : Nat} {h : jjHp}
theorem kx_ne {aC : Nat → ClassId} {a b m ci : Nat} {fs : List Value} {x : vp_A} {cA : ClassId} (ho : h a = some (.inr (ci, fs))) (hv : h b = some (.inl (cA, x))) : b ≠ a := fun z => by
  rw [z, ho] at hv
  cases hv
theorem kx_AS_ensure {a b m q : Nat} {ml n : Int32} {f : Nat → Int32} (ho : h a = some (kx_sb b ml n)) (hv : h b = some (kx_ba aC m f)) (hq : q ≤ m) (hm : m ≤ 65536) : jj_Ct l D aC base yn_AS_ensureCapacityInternal yb_AS_ensureCapacityInternal 3 none 0 0 0 [.ref a, .int (nI q)] h (fun r h' => r = none ∧ h' = h) := by
  refine jj_start (tb := tb_AS_ensureCapacityInternal) (by decide) tg_AS_ensureCapacityInternal (Nat.le_of_ble_eq_true rfl) ?_
  intro p e s m0 args below meth c C
  refine jj_go C 1 rfl ?_
  refine jj_getf C rfl fl_AS_15 ho rfl ?_
  refine jj_alen C 4 rfl hv rfl ?_
  refine jj_go C 1 rfl ?_
  refine jj_getf C rfl fl_AS_22 ho rfl ?_
  refine jj_go C 1 rfl ?_
  refine jj_top (sb_shr0 _) ?_
  refine jj_go C 4 rfl ?_
  refine jj_if C rfl (fun _ => ?_) (fun hc => absurd ((ky_sub (a := q) (b := m) (by omega) (by omega)).mpr hq) hc)
  exact jj_vret C rfl rfl (Nat.le_refl _) (Nat.le_refl _) ⟨rfl, rfl⟩
theorem kx_AS_append {a b m n k : Nat} {ml : Int32} {f : Nat → Int32} (ho : h a = some (kx_sb b ml (nI n))) (hv : h b = some (kx_ba aC m f)) (hn : n + 1 ≤ m) (hm : m ≤ 65536) (hk : k < 128) : jj_Ct l D aC base yn_AS_append yb_AS_append 2 (some (.object "java/lang/AbstractStringBuilder")) 1 0 0 [.ref a, .int (nI k)] h (fun r h' => r = some (.ref a) ∧ h' = jj_up (jj_up h a (kx_sb b ml (nI (n + 1)))) b (kx_ba aC m (upd f n (nI k)))) := by
  refine jj_start (tb := tb_AS_append) (by decide) tg_AS_append (Nat.le_of_ble_eq_true rfl) ?_
  intro p e s m0 args below meth c C
  refine jj_go C 2 rfl ?_
  refine jj_getf C rfl fl_AS_79 ho rfl ?_
  refine jj_go C 2 rfl ?_
  refine jj_top (nI_1 n) ?_
  refine jj_callV C rfl ml_AS_100 wd_153 ho rfl se_SB_AS_ensureCapacityInternal (kx_AS_ensure ho hv hn hm) (rest := []) rfl rfl ⟨Nat.le_refl _, Nat.le_of_ble_eq_true rfl⟩ (Nat.le_refl _) (Nat.le_refl _) (Nat.zero_le _) ?_
  rintro r h' ⟨rfl, rfl⟩
  refine jj_go C 1 rfl ?_
  refine jj_callV C rfl ml_AS_83 wd_187 ho rfl se_SB_AS_isLatin1 (kx_AS_isLatin1 ho) (rest := []) rfl rfl ⟨Nat.le_refl _, Nat.le_of_ble_eq_true rfl⟩ (Nat.le_refl _) (Nat.le_refl _) (Nat.zero_le _) ?_
  rintro r h' ⟨rfl, rfl⟩
  refine jj_if C rfl (fun hc => absurd hc (by decide)) (fun _ => ?_)
  refine jj_go C 1 rfl ?_
  refine jj_callS C rfl ml_AS_191 wd_192 (kx_SL_canEncode (k := k) (by omega)) (rest := []) rfl rfl ⟨Nat.le_refl _, Nat.le_of_ble_eq_true rfl⟩ (Nat.le_refl _) (Nat.le_refl _) (Nat.zero_le _) ?_
  rintro r h' ⟨rfl, rfl⟩
  refine jj_if C rfl (fun hc => absurd hc (by decide)) (fun _ => ?_)
  refine jj_go C 1 rfl ?_
  refine jj_getf C rfl fl_AS_15 ho rfl ?_
  refine jj_go C 2 rfl ?_
  refine jj_getf C rfl fl_AS_79 ho rfl ?_
  refine jj_go C 3 rfl ?_
  refine jj_top (nI_1 n) ?_
  refine jj_putf C rfl fl_AS_79 ho rfl rfl (Nat.le_of_ble_eq_true rfl) ?_
  refine jj_go C 2 rfl ?_
  refine jj_bast C rfl ((jj_up_n (kx_ne (m := m) (aC := aC) ho hv)).trans hv) rfl (show n < m by omega) (by omega) ?_
  refine jj_go C 2 rfl ?_
  refine jj_aret C rfl rfl (Or.inl ⟨_, rfl⟩) (Or.inr ⟨_, rfl⟩) (Nat.le_refl _) (Nat.le_refl _) ⟨rfl, ?_⟩
  rw [ky_byte k hk]
  rfl
theorem kx_SB_append {a b m n k : Nat} {ml : Int32} {f : Nat → Int32} (ho : h a = some (kx_sb b ml (nI n))) (hv : h b = some (kx_ba aC m f)) (hn : n + 1 ≤ m) (hm : m ≤ 65536) (hk : k < 128) : jj_Ct l D aC base yn_SB_append yb_SB_append 2 (some (.object "java/lang/StringBuilder")) 2 0 0 [.ref a, .int (nI k)] h (fun r h' => r = some (.ref a) ∧ h' = jj_up (jj_up h a (kx_sb b ml (nI (n + 1)))) b (kx_ba aC m (upd f n (nI k)))) := by
  refine jj_start (tb := tb_SB_append) (by decide) tg_SB_append (Nat.le_of_ble_eq_true rfl) ?_
  intro p e s m0 args below meth c C
  refine jj_go C 2 rfl ?_
  refine jj_callP C rfl ho rfl ms_SB_50 (kx_AS_append ho hv hn hm hk) (rest := []) rfl rfl ⟨Nat.le_refl _, Nat.le_of_ble_eq_true rfl⟩ (Nat.le_refl _) (Nat.le_refl _) (Nat.zero_le _) ?_
  rintro r h' ⟨rfl, rfl⟩
  refine jj_go C 2 rfl ?_
  exact jj_aret C rfl rfl (Or.inl ⟨_, rfl⟩) (Or.inr ⟨_, rfl⟩) (Nat.le_refl _) (Nat.le_refl _) ⟨rfl, rfl⟩
end KY
