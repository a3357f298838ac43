/-! StringBuilder: growth, append of a letter to a text -/
def kx_tx (f : Nat → Int32) (t : List Nat) : Prop := ∀ i, i < t.length → f i = nI (t.getD i 0) ∧ t.getD i 0 < 128
/-- a StringBuilder that holds the text t, in b, of m bytes -/
def kx_SB (aC : Nat → ClassId) (h : jjHp) (a b m : Nat) (t : List Nat) : Prop := ∃ (ml : Int32) (f : Nat → Int32), h a = some (kx_sb b ml (nI t.length)) ∧ h b = some (kx_ba aC m f) ∧ kx_tx f t ∧ sb_Fit f ∧ t.length ≤ m ∧ m ≤ 142
/-- a String that holds the text t -/
def kx_ST (aC : Nat → ClassId) (h : jjHp) (a b : Nat) (t : List Nat) : Prop := ∃ (hs hz : Int32) (f : Nat → Int32), h a = some (kx_st b hs hz) ∧ h b = some (kx_ba aC t.length f) ∧ kx_tx f t
/-- all but these stay -/
def jj_fr (S : List Nat) (h h' : jjHp) : Prop := ∀ c e, c ∉ S → h c = some e → h' c = some e
theorem jj_fr.rf {S : List Nat} {h : jjHp} : jj_fr S h h := fun _ _ _ z => z
theorem jj_fr.tr {S : List Nat} {h h1 h2 : jjHp} (a : jj_fr S h h1) (b : jj_fr S h1 h2) : jj_fr S h h2 := fun c e hc z => b c e hc (a c e hc z)
theorem jj_fr.up {S : List Nat} {h h1 : jjHp} {a : Nat} {x : va_E} (hf : jj_fr S h h1) (ha : a ∈ S ∨ h a = none) : jj_fr S h (jj_up h1 a x) := fun c e hc z => by
  rw [jj_up_n (fun q => ?_)]
  · exact hf c e hc z
  · subst q
    rcases ha with ha | ha
    · exact hc ha
    · rw [ha] at z
      cases z
theorem jj_fr.mono {S T : List Nat} {h h1 : jjHp} (hf : jj_fr S h h1) (hs : ∀ a, a ∈ S → a ∈ T) : jj_fr T h h1 := fun c e hc z => hf c e (fun q => hc (hs c q)) z
theorem kx_tx_nil {f : Nat → Int32} : kx_tx f [] := fun i hi => absurd hi (Nat.not_lt_zero _)
theorem kx_tx_keep {f g : Nat → Int32} {t : List Nat} (h : kx_tx f t) (hk : ∀ j, j < t.length → g j = f j) : kx_tx g t := fun i hi => by rw [hk i hi]; exact h i hi
theorem kx_tx_add {f : Nat → Int32} {t : List Nat} {k : Nat} (h : kx_tx f t) (hk : k < 128) : kx_tx (upd f t.length (nI k)) (t ++ [k]) := by
  intro i hi
  simp only [List.length_append, List.length_cons, List.length_nil] at hi
  by_cases he : i = t.length
  · subst he
    simp [upd, List.getD_eq_getElem?_getD, hk]
  · have h1 : i < t.length := by omega
    have h2 := h i h1
    simp only [upd, if_neg he, List.getD_eq_getElem?_getD, List.getElem?_append_left h1] at h2 ⊢
    exact h2
theorem kx_fit_k {k : Nat} (hk : k < 128) : fits .byte (.int (nI k)) = true := ky_fit k hk
def kx_cap (q m : Nat) : Nat := m + (if q - m < m + 2 then m + 2 else q - m)
section KZ
variable {l : Launch} {D : va_G} {aC : Nat → ClassId} {base : Nat} {h : jjHp}
theorem kx_AP_newLength {m g pf : Nat} (hm : m < 65536) (hg : g < 65536) (hp : pf < 65536) (h0 : 0 < pf) : jj_Ct l D aC base yn_AP_newLength yb_AP_newLength 4 (some .int) 1 0 0 [.int (nI m), .int (nI g), .int (nI pf)] h (fun r h' => r = some (.int (nI (m + (if g < pf then pf else g)))) ∧ h' = h) := by
  refine jj_start (tb := tb_AP_newLength) (by decide) tg_AP_newLength (Nat.le_of_ble_eq_true rfl) ?_
  intro p e s m0 args below meth c C
  refine jj_go C 3 rfl ?_
  refine jj_mmax C rfl wd_162 wd_163 wd_9 wd_164 (Nat.le_refl _) (Nat.le_of_ble_eq_true rfl) (Nat.le_refl _) (Nat.le_refl _) ?_
  have e1 : (if nI g < nI pf then nI pf else nI g) = nI (if g < pf then pf else g) := by
    by_cases hc : g < pf
    · rw [if_pos hc, if_pos (nI_lt hc (by omega))]
    · rw [if_neg hc, if_neg (nI_nlt (by omega) (by omega))]
  have hX : (if g < pf then pf else g) < 65536 := by split <;> omega
  have hX0 : 0 < (if g < pf then pf else g) := by split <;> omega
  refine jj_top e1 ?_
  refine jj_go C 1 rfl ?_
  refine jj_top (nI_add m _) ?_
  refine jj_go C 3 rfl ?_
  refine jj_if C rfl (fun hc => absurd hc (nI_nle (by omega) (by omega))) (fun _ => ?_)
  refine jj_go C 1 rfl ?_
  refine jj_ldci C rfl wd_165 ?_
  refine jj_if C rfl (fun hc => absurd hc (show ¬ nI 2147483639 < nI _ from nI_nlt (by omega) (by decide))) (fun _ => ?_)
  refine jj_go C 1 rfl ?_
  exact jj_iret C rfl rfl rfl (Nat.le_refl _) (Nat.le_refl _) ⟨rfl, rfl⟩
theorem kx_AS_newCapacity {a b m q : Nat} {ml n : Int32} {f : Nat → Int32} (ho : h a = some (kx_sb b ml n)) (hv : h b = some (kx_ba aC m f)) (hq : m < q) (hq2 : q < 20000) : jj_Ct l D aC base yn_AS_newCapacity yb_AS_newCapacity 6 (some .int) 2 0 0 [.ref a, .int (nI q)] h (fun r h' => r = some (.int (nI (kx_cap q m))) ∧ h' = h) := by
  refine jj_start (tb := tb_AS_newCapacity) (by decide) tg_AS_newCapacity (Nat.le_of_ble_eq_true rfl) ?_
  intro p e s m0 args below meth c C
  refine jj_go C 1 rfl ?_
  refine jj_getf C rfl fl_AS_15 ho rfl ?_
  refine jj_alen C 4 rfl hv rfl ?_
  refine jj_go C 3 rfl ?_
  refine jj_getf C rfl fl_AS_22 ho rfl ?_
  refine jj_go C 1 rfl ?_
  refine jj_top (sb_shl0 _) ?_
  refine jj_go C 4 rfl ?_
  refine jj_top (pk_sub (a := q) (b := m) (by omega)) ?_
  refine jj_go C 6 rfl ?_
  refine jj_getf C rfl fl_AS_22 ho rfl ?_
  refine jj_go C 1 rfl ?_
  refine jj_top (sb_shl0 _) ?_
  refine jj_go C 1 rfl ?_
  refine jj_top (show nI m + 2 = nI (m + 2) from nI_add m 2) ?_
  refine jj_callS C rfl ml_AS_114 wd_160 (kx_AP_newLength (m := m) (g := q - m) (pf := m + 2) (by omega) (by omega) (by omega) (by omega)) (rest := []) rfl rfl ⟨Nat.le_refl _, Nat.le_of_ble_eq_true rfl⟩ (Nat.le_refl _) (Nat.le_refl _) (Nat.zero_le _) ?_
  rintro r h' ⟨rfl, rfl⟩
  have hX : m + (if q - m < m + 2 then m + 2 else q - m) < 65536 := by split <;> omega
  refine jj_go C 2 rfl ?_
  refine jj_ldci C rfl wd_169 ?_
  refine jj_if C rfl (fun hc => ?_) (fun _ => ?_)
  · have := (nI_eq (b := 2147483647) (by omega) (by decide)).mp hc
    omega
  refine jj_go C 2 rfl ?_
  refine jj_getf C rfl fl_AS_22 ho rfl ?_
  refine jj_go C 1 rfl ?_
  refine jj_top (sb_shr0 _) ?_
  exact jj_iret C rfl rfl rfl (Nat.le_refl _) (Nat.le_refl _) ⟨rfl, rfl⟩
theorem kx_AR_copyOf {b m n : Nat} {f : Nat → Int32} (hv : h b = some (kx_ba aC m f)) (hf : sb_Fit f) (hn : m < n) (hn2 : n ≤ 65536) : jj_Ct l D aC base yn_AR_copyOf yb_AR_copyOf 3 (some (.array .byte)) 1 1 n [.ref b, .int (nI n)] h (fun r h' => ∃ q, r = some (.ref q) ∧ h q = none ∧ h' = jj_up h q (kx_ba aC n (va_cpy f (fun _ => 0) 0 0 m))) := by
  refine jj_start (tb := tb_AR_copyOf) (by decide) tg_AR_copyOf (Nat.le_of_ble_eq_true rfl) ?_
  intro p e s m0 args below meth c C
  refine jj_go C 2 rfl ?_
  refine jj_alen C 4 rfl hv rfl ?_
  refine jj_if C rfl (fun hc => ?_) (fun _ => ?_)
  · have := (nI_eq (a := n) (b := m) (by omega) (by omega)).mp hc
    omega
  refine jj_go C 1 rfl ?_
  refine jj_newa C 4 (N := n) (a0 := (n, .inl (fun _ => 0))) rfl wd_63 rfl rfl (fun _ => rfl) rfl hn2 (Nat.le_refl _) (show 0 + n ≤ n by omega) (fun q hq => ?_)
  refine jj_go C 6 rfl ?_
  refine jj_alen C 4 rfl (jj_up_f hq hv) rfl ?_
  refine jj_go C 1 rfl ?_
  refine jj_mmin C rfl wd_180 wd_181 wd_9 wd_182 (Nat.le_refl _) (Nat.le_of_ble_eq_true rfl) (Nat.le_refl _) (show 0 + n ≤ n by omega) ?_
  refine jj_top (if_neg (nI_nlt (by omega) (by omega))) ?_
  refine jj_acopy C (j0 := 0) (j1 := 0) (n := m) rfl wd_183 wd_185 wd_184 wd_11 (jj_up_f hq hv) jj_up_s rfl rfl rfl (by omega) (by omega) (by omega) (by omega) (fun i _ => hf _) (Nat.le_refl _) (Nat.le_of_ble_eq_true rfl) ?_
  refine jj_go C 1 rfl ?_
  refine jj_aret C rfl rfl (Or.inr ⟨_, rfl⟩) (Or.inr ⟨_, rfl⟩) (Nat.le_refl _) (show 0 + n ≤ n by omega) ⟨q, rfl, hq, ?_⟩
  rw [jj_up_up]
theorem kx_AS_ensureG {a b m q : Nat} {ml n : Int32} {f : Nat → Int32} (ho : h a = some (kx_sb b ml n)) (hv : h b = some (kx_ba aC m f)) (hf : sb_Fit f) (hq : m < q) (hq2 : q < 20000) : jj_Ct l D aC base yn_AS_ensureCapacityInternal yb_AS_ensureCapacityInternal 3 none 3 1 (kx_cap q m) [.ref a, .int (nI q)] h (fun r h' => r = none ∧ ∃ b', h b' = none ∧ h' = jj_up (jj_up h b' (kx_ba aC (kx_cap q m) (va_cpy f (fun _ => 0) 0 0 m))) a (kx_sb b' ml n)) := by
  refine jj_start (tb := tb_AS_ensureCapacityInternal) (by decide) tg_AS_ensureCapacityInternal (Nat.le_of_ble_eq_true rfl) ?_
  intro p e s m0 args below meth c C
  have hX : m + (if q - m < m + 2 then m + 2 else q - m) < 65536 := by split <;> omega
  have hX2 : m < kx_cap q m := by unfold kx_cap; split <;> omega
  refine jj_go C 1 rfl ?_
  refine jj_getf C rfl fl_AS_15 ho rfl ?_
  refine jj_alen C 4 rfl hv rfl ?_
  refine jj_go C 1 rfl ?_
  refine jj_getf C rfl fl_AS_22 ho rfl ?_
  refine jj_go C 1 rfl ?_
  refine jj_top (sb_shr0 _) ?_
  refine jj_go C 4 rfl ?_
  refine jj_if C rfl (fun hc => absurd ((ky_sub (a := q) (b := m) (by omega) (by omega)).mp hc) (by omega)) (fun _ => ?_)
  refine jj_go C 2 rfl ?_
  refine jj_getf C rfl fl_AS_15 ho rfl ?_
  refine jj_go C 2 rfl ?_
  refine jj_callV C rfl ml_AS_104 wd_157 ho rfl se_SB_AS_newCapacity (kx_AS_newCapacity ho hv hq hq2) (rest := [.ref b, .ref a]) rfl rfl ⟨Nat.le_refl _, Nat.le_of_ble_eq_true rfl⟩ (Nat.zero_le _) (Nat.zero_le _) (Nat.le_of_ble_eq_true rfl) ?_
  rintro r h' ⟨rfl, rfl⟩
  refine jj_go C 1 rfl ?_
  refine jj_getf C rfl fl_AS_22 ho rfl ?_
  refine jj_go C 1 rfl ?_
  refine jj_top (sb_shl0 _) ?_
  refine jj_callS C rfl ml_AS_108 wd_171 (kx_AR_copyOf hv hf hX2 (by unfold kx_cap; omega)) (rest := [.ref a]) rfl rfl ⟨Nat.le_of_ble_eq_true rfl, Nat.le_of_ble_eq_true rfl⟩ (Nat.le_refl _) (show 0 + 0 + kx_cap q m ≤ kx_cap q m by omega) (Nat.le_of_ble_eq_true rfl) ?_
  rintro r h' ⟨b', rfl, hb', rfl⟩
  refine jj_putf C rfl fl_AS_15 (jj_up_f hb' ho) rfl rfl (Nat.le_of_ble_eq_true rfl) ?_
  exact jj_vret C rfl rfl (Nat.le_refl _) (show 0 + 0 + kx_cap q m ≤ kx_cap q m by omega) ⟨rfl, b', hb', rfl⟩
end KZ
