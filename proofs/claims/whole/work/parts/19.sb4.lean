/-! StringBuilder over texts: append, toString, setLength(0), charAt, deleteCharAt -/
section KT
variable {l : Launch} {D : va_G} {aC : Nat → ClassId} {base : Nat} {h : jjHp}
theorem kt_AS_append {a b m k : Nat} {t : List Nat} (hs : kx_SB aC h a b m t) (ht : t.length ≤ 70) (hk : k < 128) : jj_Ct l D aC base yn_AS_append yb_AS_append 2 (some (.object "java/lang/AbstractStringBuilder")) 4 1 142 [.ref a, .int (nI k)] h (fun r h' => r = some (.ref a) ∧ ∃ b' m', kx_SB aC h' a b' m' (t ++ [k]) ∧ (b' = b ∨ h b' = none) ∧ jj_fr [a, b] h h') := by
  obtain ⟨ml, f, ho, hv, htx, hfit, hle, hm⟩ := hs
  refine jj_start (tb := tb_AS_append) (by decide) tg_AS_append (Nat.le_of_ble_eq_true rfl) ?_
  intro p e s m0 args below meth c C
  have tail : ∀ (h1 : jjHp) (b1 m1 : Nat) (f1 : Nat → Int32) (kc ks : Nat), h1 a = some (kx_sb b1 ml (nI t.length)) → h1 b1 = some (kx_ba aC m1 f1) → kx_tx f1 t → sb_Fit f1 → t.length < m1 → m1 ≤ 142 → (b1 = b ∨ h b1 = none) → jj_fr [a, b] h h1 → kc ≤ 1 → ks ≤ 142 →
      jj_J p l e (jj_rm 4 1 142) s m0 args below meth c D base 2 (MQ below (jj_Q D base (fun r h' => r = some (.ref a) ∧ ∃ b' m', kx_SB aC h' a b' m' (t ++ [k]) ∧ (b' = b ∨ h b' = none) ∧ jj_fr [a, b] h h')) args s 1 142 (jj_A base)) 10 [(0, .ref a), (1, .int (nI k))] [] h1 kc ks := by
    intro h1 b1 m1 f1 kc ks ho1 hv1 htx1 hfit1 hlt1 hm1 hb1 hfr1 hkc hks
    have hne : b1 ≠ a := kx_ne (m := m) (aC := aC) ho1 hv1
    refine jj_go C 1 rfl ?_
    refine jj_callV C rfl ml_AS_83 wd_187 ho1 rfl se_SB_AS_isLatin1 (kx_AS_isLatin1 ho1) (rest := []) rfl rfl ⟨Nat.le_of_ble_eq_true rfl, Nat.le_of_ble_eq_true rfl⟩ (show kc + 0 ≤ 1 by omega) (show ks + 0 ≤ 142 by omega) (Nat.zero_le _) ?_
    rintro r h' ⟨rfl, rfl⟩
    refine jj_if C rfl (fun hc => absurd hc (by decide)) (fun _ => ?_)
    refine jj_go C 1 rfl ?_
    refine jj_callS C rfl ml_AS_191 wd_192 (kx_SL_canEncode (k := k) (by omega)) (rest := []) rfl rfl ⟨Nat.le_of_ble_eq_true rfl, Nat.le_of_ble_eq_true rfl⟩ (show kc + 0 + 0 ≤ 1 by omega) (show ks + 0 + 0 ≤ 142 by omega) (Nat.zero_le _) ?_
    rintro r h' ⟨rfl, rfl⟩
    refine jj_if C rfl (fun hc => absurd hc (by decide)) (fun _ => ?_)
    refine jj_go C 1 rfl ?_
    refine jj_getf C rfl fl_AS_15 ho1 rfl ?_
    refine jj_go C 2 rfl ?_
    refine jj_getf C rfl fl_AS_79 ho1 rfl ?_
    refine jj_go C 3 rfl ?_
    refine jj_top (nI_1 t.length) ?_
    refine jj_putf C rfl fl_AS_79 ho1 rfl rfl (Nat.le_of_ble_eq_true rfl) ?_
    refine jj_go C 2 rfl ?_
    refine jj_bast C rfl ((jj_up_n hne).trans hv1) rfl hlt1 (by omega) ?_
    refine jj_go C 2 rfl ?_
    refine jj_aret C rfl rfl (Or.inl ⟨_, rfl⟩) (Or.inr ⟨_, rfl⟩) (show kc + 0 + 0 ≤ 1 by omega) (show ks + 0 + 0 ≤ 142 by omega) ⟨rfl, b1, m1, ⟨ml, upd f1 t.length (nI k), ?_, ?_, kx_tx_add htx1 hk, sb_fitU hfit1 (kx_fit_k hk), ?_, hm1⟩, hb1, ?_⟩
    · rw [jj_up_n (Ne.symm hne), jj_up_s, List.length_append]
      rfl
    · rw [jj_up_s, ky_byte k hk]
    · rw [List.length_append]
      exact hlt1
    · exact (hfr1.up (Or.inl (List.mem_cons_self))).up (hb1.elim (fun q => Or.inl (by rw [q]; exact List.mem_cons_of_mem _ List.mem_cons_self)) Or.inr)
  refine jj_go C 2 rfl ?_
  refine jj_getf C rfl fl_AS_79 ho rfl ?_
  refine jj_go C 2 rfl ?_
  refine jj_top (nI_1 t.length) ?_
  by_cases hroom : t.length + 1 ≤ m
  · refine jj_callV C rfl ml_AS_100 wd_153 ho rfl se_SB_AS_ensureCapacityInternal (kx_AS_ensure ho hv hroom (by omega)) (rest := []) rfl rfl ⟨Nat.le_of_ble_eq_true rfl, Nat.le_of_ble_eq_true rfl⟩ (Nat.zero_le _) (Nat.zero_le _) (Nat.zero_le _) ?_
    rintro r h' ⟨rfl, rfl⟩
    exact tail _ b m f _ _ ho hv htx hfit hroom hm (Or.inl rfl) jj_fr.rf (Nat.zero_le _) (Nat.zero_le _)
  · have hml : m = t.length := by omega
    have hcap : kx_cap (t.length + 1) m = m + (m + 2) := by
      unfold kx_cap
      rw [if_pos (by omega)]
    refine jj_callV C rfl ml_AS_100 wd_153 ho rfl se_SB_AS_ensureCapacityInternal (kx_AS_ensureG ho hv hfit (q := t.length + 1) (by omega) (by omega)) (rest := []) rfl rfl ⟨Nat.le_refl _, Nat.le_of_ble_eq_true rfl⟩ (Nat.le_refl _) (show 0 + kx_cap (t.length + 1) m ≤ 142 by omega) (Nat.zero_le _) ?_
    rintro r h' ⟨rfl, b', hb', rfl⟩
    have hne : a ≠ b' := jj_ne hb' ho
    refine tail _ b' (kx_cap (t.length + 1) m) (va_cpy f (fun _ => 0) 0 0 m) _ _ jj_up_s ((jj_up_n (Ne.symm hne)).trans jj_up_s) (kx_tx_keep htx (fun j hj => sb_cpy0 (by omega))) (sb_fitC hfit sb_fit0) (by omega) (by omega) (Or.inr hb') ((jj_fr.rf.up (Or.inr hb')).up (Or.inl List.mem_cons_self)) (Nat.le_refl _) (show 0 + kx_cap (t.length + 1) m ≤ 142 by omega)
theorem kt_SB_append {a b m k : Nat} {t : List Nat} (hs : kx_SB aC h a b m t) (ht : t.length ≤ 70) (hk : k < 128) : jj_Ct l D aC base yn_SB_append yb_SB_append 2 (some (.object "java/lang/StringBuilder")) 5 1 142 [.ref a, .int (nI k)] h (fun r h' => r = some (.ref a) ∧ ∃ b' m', kx_SB aC h' a b' m' (t ++ [k]) ∧ (b' = b ∨ h b' = none) ∧ jj_fr [a, b] h h') := by
  have ho := hs
  obtain ⟨ml, f, ho, -⟩ := ho
  refine jj_start (tb := tb_SB_append) (by decide) tg_SB_append (Nat.le_of_ble_eq_true rfl) ?_
  intro p e s m0 args below meth c C
  refine jj_go C 2 rfl ?_
  refine jj_callP C rfl ho rfl ms_SB_50 (kt_AS_append hs ht hk) (rest := []) rfl rfl ⟨Nat.le_refl _, Nat.le_of_ble_eq_true rfl⟩ (Nat.le_refl _) (Nat.le_refl _) (Nat.zero_le _) ?_
  rintro r h' ⟨rfl, hp⟩
  refine jj_go C 2 rfl ?_
  exact jj_aret C rfl rfl (Or.inl ⟨_, rfl⟩) (Or.inr ⟨_, rfl⟩) (Nat.le_refl _) (Nat.le_refl _) ⟨rfl, hp⟩
theorem kx_AR_checkLength {n : Nat} (hn : n < 2 ^ 31) : jj_Ct l D aC base yn_AR_checkLength yb_AR_checkLength 2 none 0 0 0 [.int 0, .int (nI n)] h (fun r h' => r = none ∧ h' = h) := by
  refine jj_start (tb := tb_AR_checkLength) (by decide) tg_AR_checkLength (Nat.le_of_ble_eq_true rfl) ?_
  intro p e s m0 args below meth c C
  refine jj_go C 2 rfl ?_
  refine jj_if C rfl (fun _ => ?_) (fun hc => absurd (nI_pos' hn) hc)
  exact jj_vret C rfl rfl (Nat.le_refl _) (Nat.le_refl _) ⟨rfl, rfl⟩
theorem ky_sub0 (x : Int32) : x - 0 = x := by simp
theorem kx_AR_copyOfRangeByte {b m n : Nat} {f : Nat → Int32} (hv : h b = some (kx_ba aC m f)) (hf : sb_Fit f) (hn : n ≤ m) (hm : m ≤ 65536) : jj_Ct l D aC base yn_AR_copyOfRangeByte yb_AR_copyOfRangeByte 5 (some (.array .byte)) 1 1 n [.ref b, .int 0, .int (nI n)] h (fun r h' => ∃ q, r = some (.ref q) ∧ h q = none ∧ h' = jj_up h q (kx_ba aC n (va_cpy f (fun _ => 0) 0 0 n))) := by
  refine jj_start (tb := tb_AR_copyOfRangeByte) (by decide) tg_AR_copyOfRangeByte (Nat.le_of_ble_eq_true rfl) ?_
  intro p e s m0 args below meth c C
  refine jj_go C 2 rfl ?_
  refine jj_callS C rfl ml_AR_343 wd_278 (kx_AR_checkLength (n := n) (by omega)) (rest := []) rfl rfl ⟨Nat.le_refl _, Nat.le_of_ble_eq_true rfl⟩ (Nat.zero_le _) (Nat.zero_le _) (Nat.zero_le _) ?_
  rintro r h' ⟨rfl, rfl⟩
  refine jj_go C 3 rfl ?_
  refine jj_top (ky_sub0 _) ?_
  refine jj_go C 2 rfl ?_
  refine jj_newa C 4 (N := n) (a0 := (n, .inl (fun _ => 0))) rfl wd_63 rfl rfl (fun _ => rfl) rfl (by omega) (Nat.le_refl _) (show 0 + 0 + n ≤ n by omega) (fun q hq => ?_)
  refine jj_go C 6 rfl ?_
  refine jj_alen C 4 rfl (jj_up_f hq hv) rfl ?_
  refine jj_go C 2 rfl ?_
  refine jj_top (ky_sub0 _) ?_
  refine jj_go C 1 rfl ?_
  refine jj_mmin C rfl wd_180 wd_181 wd_9 wd_182 (Nat.le_refl _) (Nat.le_of_ble_eq_true rfl) (Nat.le_refl _) (show 0 + 0 + n ≤ n by omega) ?_
  have e1 : (if nI n < nI m then nI n else nI m) = nI n := by
    by_cases hc : n < m
    · rw [if_pos (nI_lt hc (by omega))]
    · have : n = m := by omega
      subst this
      rw [if_neg (nI_nlt (Nat.le_refl _) (by omega))]
  refine jj_top e1 ?_
  refine jj_acopy C (j0 := 0) (j1 := 0) (n := n) rfl wd_183 wd_185 wd_184 wd_11 (jj_up_f hq hv) jj_up_s rfl rfl rfl (by omega) (by omega) (by omega) (by omega) (fun i _ => hf _) (Nat.le_refl _) (Nat.le_of_ble_eq_true rfl) ?_
  refine jj_go C 1 rfl ?_
  refine jj_aret C rfl rfl (Or.inr ⟨_, rfl⟩) (Or.inr ⟨_, rfl⟩) (Nat.le_refl _) (show 0 + 0 + n ≤ n by omega) ⟨q, rfl, hq, ?_⟩
  rw [jj_up_up]
theorem kx_AR_copyOfRange {b m n : Nat} {f : Nat → Int32} (hv : h b = some (kx_ba aC m f)) (hf : sb_Fit f) (hn : n ≤ m) (hm : m ≤ 65536) : jj_Ct l D aC base yn_AR_copyOfRange yb_AR_copyOfRange 3 (some (.array .byte)) 2 1 n [.ref b, .int 0, .int (nI n)] h (fun r h' => ∃ q g, r = some (.ref q) ∧ h q = none ∧ h' = jj_up h q (kx_ba aC n g) ∧ ∀ j, j < n → g j = f j) := by
  refine jj_start (tb := tb_AR_copyOfRange) (by decide) tg_AR_copyOfRange (Nat.le_of_ble_eq_true rfl) ?_
  intro p e s m0 args below meth c C
  refine jj_go C 1 rfl ?_
  refine jj_if C rfl (fun _ => ?_) (fun hc => absurd rfl hc)
  refine jj_go C 2 rfl ?_
  refine jj_alen C 4 rfl hv rfl ?_
  refine jj_if C rfl (fun hc => ?_) (fun hc => ?_)
  · have hnm : n = m := (nI_eq (by omega) (by omega)).mp hc
    subst hnm
    refine jj_go C 1 rfl ?_
    refine jj_clone C rfl wd_173 hv (fun i _ => hf i) (Nat.le_of_ble_eq_true rfl) (Nat.le_of_ble_eq_true rfl) (Nat.le_refl _) (show 0 + n ≤ n by omega) (fun q hq => ?_)
    refine jj_castB C rfl wd_179 jj_up_s ?_
    exact jj_aret C rfl rfl (Or.inr ⟨_, rfl⟩) (Or.inr ⟨_, rfl⟩) (Nat.le_refl _) (show 0 + n ≤ n by omega) ⟨q, f, rfl, hq, rfl, fun _ _ => rfl⟩
  · refine jj_go C 3 rfl ?_
    refine jj_callS C rfl ml_AR_339 wd_275 (kx_AR_copyOfRangeByte hv hf hn hm) (rest := []) rfl rfl ⟨Nat.le_refl _, Nat.le_of_ble_eq_true rfl⟩ (Nat.le_refl _) (show 0 + n ≤ n by omega) (Nat.zero_le _) ?_
    rintro r h' ⟨q, rfl, hq, rfl⟩
    exact jj_aret C rfl rfl (Or.inr ⟨_, rfl⟩) (Or.inr ⟨_, rfl⟩) (Nat.le_refl _) (show 0 + n ≤ n by omega) ⟨q, _, rfl, hq, rfl, fun j hj => sb_cpy0 hj⟩
theorem mu_ST_549 : jj_MU "java/lang/String" 549 "java/lang/StringBuilder" "java/lang/AbstractStringBuilder" yn_AS_length yn_SB_length yb_SB_length 1 (some .int) 0 := ⟨wd_269, wd_1227, wd_1232, wd_138, wd_3, wd_140, Or.inl ⟨wd_142, _, _, _, wd_143⟩, by decide +kernel⟩
theorem kx_ST_init2 {z a b m n : Nat} {ml : Int32} {f : Nat → Int32} (hz : h z = some (.inr (10, [.null, .int 0, .int 0, .int 0]))) (ho : h a = some (kx_sb b ml (nI n))) (hv : h b = some (kx_ba aC m f)) (hf : sb_Fit f) (hn : n ≤ m) (hm : m ≤ 65536) : jj_Ct l D aC base yn_ST_init2 yb_ST_init2 5 none 3 1 n [.ref z, .ref a, .null] h (fun r h' => r = none ∧ ∃ q g, h q = none ∧ h' = jj_up (jj_up h q (kx_ba aC n g)) z (kx_st q 0 0) ∧ ∀ j, j < n → g j = f j) := by
  refine jj_start (tb := tb_ST_init2) (by decide) tg_ST_init2 (Nat.le_of_ble_eq_true rfl) ?_
  intro p e s m0 args below meth c C
  have hza : a ≠ z := fun q => by rw [q, hz] at ho; cases ho
  have hzb : b ≠ z := kx_ne (m := m) (aC := aC) hz hv
  refine jj_go C 1 rfl ?_
  refine jj_objI C rfl wd_263 wd_29 wd_30 ⟨Nat.le_of_ble_eq_true rfl, Nat.le_of_ble_eq_true rfl⟩ (Nat.zero_le _) ?_
  refine jj_go C 1 rfl ?_
  refine jj_callV C rfl ml_ST_552 wd_265 ho rfl se_SB_AS_getValue (kx_AS_getValue ho) (rest := []) rfl rfl ⟨Nat.le_of_ble_eq_true rfl, Nat.le_of_ble_eq_true rfl⟩ (Nat.zero_le _) (Nat.zero_le _) (Nat.zero_le _) ?_
  rintro r h' ⟨rfl, rfl⟩
  refine jj_go C 2 rfl ?_
  refine jj_callU C rfl ho rfl mu_ST_549 (kx_SB_length ho) (rest := []) rfl rfl ⟨Nat.le_of_ble_eq_true rfl, Nat.le_of_ble_eq_true rfl⟩ (Nat.zero_le _) (Nat.zero_le _) (Nat.zero_le _) ?_
  rintro r h' ⟨rfl, rfl⟩
  refine jj_go C 2 rfl ?_
  refine jj_callV C rfl ml_ST_1047 wd_187 ho rfl se_SB_AS_isLatin1 (kx_AS_isLatin1 ho) (rest := []) rfl rfl ⟨Nat.le_of_ble_eq_true rfl, Nat.le_of_ble_eq_true rfl⟩ (Nat.zero_le _) (Nat.zero_le _) (Nat.zero_le _) ?_
  rintro r h' ⟨rfl, rfl⟩
  refine jj_if C rfl (fun hc => absurd hc (by decide)) (fun _ => ?_)
  refine jj_go C 2 rfl ?_
  refine jj_putF C rfl fp_ST_15 rfl hz rfl rfl (Nat.le_of_ble_eq_true rfl) ?_
  refine jj_go C 4 rfl ?_
  refine jj_callS C rfl ml_ST_54 wd_272 (kx_AR_copyOfRange ((jj_up_n hzb).trans hv) hf hn hm) (rest := [.ref z]) rfl rfl ⟨Nat.le_refl _, Nat.le_of_ble_eq_true rfl⟩ (Nat.le_refl _) (show 0 + 0 + 0 + 0 + n ≤ n by omega) (Nat.le_of_ble_eq_true rfl) ?_
  rintro r h' ⟨q, g, rfl, hq, rfl, hg⟩
  have hzq : z ≠ q := jj_ne hq jj_up_s
  refine jj_putF C rfl fp_ST_9 rfl (jj_up_f hq jj_up_s) rfl rfl (Nat.le_of_ble_eq_true rfl) ?_
  refine jj_go C 1 rfl ?_
  refine jj_vret C rfl rfl (Nat.le_refl _) (show 0 + 0 + 0 + 0 + n ≤ n by omega) ⟨rfl, q, g, ?_, ?_, hg⟩
  · rw [jj_up_n (Ne.symm hzq)] at hq
    exact hq
  · rw [jj_up_comm hzq, jj_up_up]
    rfl
theorem kx_ST_init1 {z a b m n : Nat} {ml : Int32} {f : Nat → Int32} (hz : h z = some (.inr (10, [.null, .int 0, .int 0, .int 0]))) (ho : h a = some (kx_sb b ml (nI n))) (hv : h b = some (kx_ba aC m f)) (hf : sb_Fit f) (hn : n ≤ m) (hm : m ≤ 65536) : jj_Ct l D aC base yn_ST_init1 yb_ST_init1 2 none 4 1 n [.ref z, .ref a] h (fun r h' => r = none ∧ ∃ q g, h q = none ∧ h' = jj_up (jj_up h q (kx_ba aC n g)) z (kx_st q 0 0) ∧ ∀ j, j < n → g j = f j) := by
  refine jj_start (tb := tb_ST_init1) (by decide) tg_ST_init1 (Nat.le_of_ble_eq_true rfl) ?_
  intro p e s m0 args below meth c C
  refine jj_go C 3 rfl ?_
  refine jj_callI C rfl ml_ST_489 wd_261 rfl (kx_ST_init2 hz ho hv hf hn hm) (rest := []) rfl rfl ⟨Nat.le_refl _, Nat.le_of_ble_eq_true rfl⟩ (Nat.le_refl _) (show 0 + n ≤ n by omega) (Nat.zero_le _) ?_
  rintro r h' ⟨rfl, hp⟩
  exact jj_vret C rfl rfl (Nat.le_refl _) (show 0 + n ≤ n by omega) ⟨rfl, hp⟩
theorem kt_SB_toString {a b m : Nat} {t : List Nat} (hs : kx_SB aC h a b m t) : jj_Ct l D aC base yn_SB_toString yb_SB_toString 1 (some (.object "java/lang/String")) 5 2 146 [.ref a] h (fun r h' => ∃ z q, r = some (.ref z) ∧ h z = none ∧ h q = none ∧ kx_ST aC h' z q t ∧ jj_fr [] h h') := by
  obtain ⟨ml, f, ho, hv, htx, hfit, hle, hm⟩ := hs
  refine jj_start (tb := tb_SB_toString) (by decide) tg_SB_toString (Nat.le_of_ble_eq_true rfl) ?_
  intro p e s m0 args below meth c C
  refine jj_new C rfl nw_SB_18 (Nat.le_of_ble_eq_true rfl) (Nat.le_of_ble_eq_true rfl) (fun z hz => ?_)
  refine jj_go C 2 rfl ?_
  refine jj_callI C rfl ml_SB_137 wd_258 rfl (kx_ST_init1 (n := t.length) jj_up_s (jj_up_f hz ho) (jj_up_f hz hv) hfit hle (by omega)) (rest := [.ref z]) rfl rfl ⟨Nat.le_refl _, Nat.le_of_ble_eq_true rfl⟩ (Nat.le_refl _) (show 0 + 4 + t.length ≤ 146 by omega) (Nat.le_of_ble_eq_true rfl) ?_
  rintro r h' ⟨rfl, q, g, hq, rfl, hg⟩
  have hzq : z ≠ q := jj_ne hq jj_up_s
  have hq0 : h q = none := by
    rw [jj_up_n (Ne.symm hzq)] at hq
    exact hq
  refine jj_aret C rfl rfl (Or.inl ⟨_, rfl⟩) (Or.inr ⟨_, rfl⟩) (Nat.le_refl _) (show 0 + 4 + t.length ≤ 146 by omega) ⟨z, q, rfl, hz, hq0, ⟨0, 0, g, jj_up_s, ?_, kx_tx_keep htx hg⟩, ?_⟩
  · rw [jj_up_n (Ne.symm hzq), jj_up_s]
  · exact ((jj_fr.rf.up (Or.inr hz)).up (Or.inr hq0)).up (Or.inr hz)
theorem kt_AS_setLength0 {a b m : Nat} {t : List Nat} (hs : kx_SB aC h a b m t) : jj_Ct l D aC base yn_AS_setLength yb_AS_setLength 2 none 1 0 0 [.ref a, .int 0] h (fun r h' => r = none ∧ kx_SB aC h' a b m [] ∧ jj_fr [a] h h') := by
  obtain ⟨ml, f, ho, hv, htx, hfit, hle, hm⟩ := hs
  have hne : b ≠ a := kx_ne (m := m) (aC := aC) ho hv
  refine jj_start (tb := tb_AS_setLength) (by decide) tg_AS_setLength (Nat.le_of_ble_eq_true rfl) ?_
  intro p e s m0 args below meth c C
  refine jj_go C 1 rfl ?_
  refine jj_if C rfl (fun _ => ?_) (fun hc => absurd (by decide) hc)
  refine jj_go C 2 rfl ?_
  refine jj_callV C rfl ml_AS_100 wd_153 ho rfl se_SB_AS_ensureCapacityInternal (kx_AS_ensure (q := 0) ho hv (Nat.zero_le _) (by omega)) (rest := []) rfl rfl ⟨Nat.le_refl _, Nat.le_of_ble_eq_true rfl⟩ (Nat.le_refl _) (Nat.le_refl _) (Nat.zero_le _) ?_
  rintro r h' ⟨rfl, rfl⟩
  refine jj_go C 1 rfl ?_
  refine jj_getf C rfl fl_AS_79 ho rfl ?_
  refine jj_go C 1 rfl ?_
  refine jj_if C rfl (fun _ => ?_) (fun hc => absurd (nI_pos' (by omega)) hc)
  refine jj_go C 1 rfl ?_
  refine jj_getf C rfl fl_AS_79 ho rfl ?_
  refine jj_go C 1 rfl ?_
  refine jj_if C rfl (fun _ => ?_) (fun _ => ?_)
  · refine jj_go C 2 rfl ?_
    refine jj_putf C rfl fl_AS_79 ho rfl rfl (Nat.le_of_ble_eq_true rfl) ?_
    exact jj_vret C rfl rfl (Nat.le_refl _) (Nat.le_refl _) ⟨rfl, ⟨ml, f, jj_up_s, (jj_up_n hne).trans hv, kx_tx_nil, hfit, Nat.zero_le _, hm⟩, jj_fr.rf.up (Or.inl List.mem_cons_self)⟩
  · refine jj_go C 2 rfl ?_
    refine jj_putf C rfl fl_AS_73 ho rfl rfl (Nat.le_of_ble_eq_true rfl) ?_
    refine jj_go C 2 rfl ?_
    refine jj_putf C rfl fl_AS_79 jj_up_s rfl rfl (Nat.le_of_ble_eq_true rfl) ?_
    exact jj_vret C rfl rfl (Nat.le_refl _) (Nat.le_refl _) ⟨rfl, ⟨1, f, jj_up_s, (jj_up_n hne).trans ((jj_up_n hne).trans hv), kx_tx_nil, hfit, Nat.zero_le _, hm⟩, (jj_fr.rf.up (Or.inl List.mem_cons_self)).up (Or.inl List.mem_cons_self)⟩
theorem kt_SB_setLength0 {a b m : Nat} {t : List Nat} (hs : kx_SB aC h a b m t) : jj_Ct l D aC base yn_SB_setLength yb_SB_setLength 2 none 2 0 0 [.ref a, .int 0] h (fun r h' => r = none ∧ kx_SB aC h' a b m [] ∧ jj_fr [a] h h') := by
  have ho := hs
  obtain ⟨ml, f, ho, -⟩ := ho
  refine jj_start (tb := tb_SB_setLength) (by decide) tg_SB_setLength (Nat.le_of_ble_eq_true rfl) ?_
  intro p e s m0 args below meth c C
  refine jj_go C 2 rfl ?_
  refine jj_callP C rfl ho rfl ms_SB_333 (kt_AS_setLength0 hs) (rest := []) rfl rfl ⟨Nat.le_refl _, Nat.le_of_ble_eq_true rfl⟩ (Nat.le_refl _) (Nat.le_refl _) (Nat.zero_le _) ?_
  rintro r h' ⟨rfl, hp⟩
  exact jj_vret C rfl rfl (Nat.le_refl _) (Nat.le_refl _) ⟨rfl, hp⟩
end KT
