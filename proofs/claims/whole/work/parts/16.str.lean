/-! String: length, charAt, isEmpty, equals -/
section JJS
variable {p : Program} {l : Launch} {e : Env} {R : Room} {s : State} {m : MethodId} {args : Array Value} {below : List Frame} {meth : Method} {c : Code} {Q : State → Prop} {y : MethodName} {cc : ByteArray} {nL : Nat} {ret : Option FieldType} {tb : jjTab} {D : va_G} {aC : Nat → ClassId} {base : Nat}
variable {pc pc' nx tg idx kc ks mc ms d : Nat} {kv : Int32} {lc lc' : jjLoc} {st st' rest : List Value} {h : jjHp} {a : Nat}
theorem jj_acmpne (C : jj_C p s m args meth c y cc nL ret tb D aC base) {x z : Nat} {o : Int} (hf : jj_look tb pc = some (.if_acmp .ne o, nx, tg, kv)) (kt : ¬ x = z → jj_J p l e R s m args below meth c D base nL Q tg lc st h kc ks) (kf : x = z → jj_J p l e R s m args below meth c D base nL Q nx lc st h kc ks) : jj_J p l e R s m args below meth c D base nL Q pc lc (.ref z :: .ref x :: st) h kc ks := by
  obtain ⟨hx, hb, hml, hown, hts, hg, hE, -, -, -⟩ := C
  obtain ⟨a1, a2, a3, -⟩ := jj_good_at hg hf
  subst a2
  exact fun H locs ls hw hS hl => lv_acmp_ne (rx := some x) (ry := some z) hx hb a1 (a3 o rfl) (fun q => kt (fun z9 => q (by rw [z9])) H locs ls hw hS hl) (fun q => kf (Option.some.inj q) H locs ls hw hS hl)
theorem jj_instY (C : jj_C p s m args meth c y cc nL ret tb D aC base) {ci : Nat} {fs : List Value} {r0 : vw_C} (hf : jj_look tb pc = some (.instanceof idx, nx, tg, kv)) (ho : h a = some (.inr (ci, fs))) (hcl : jj_cl[ci]? = some r0) (w1 : Cond.classLink y.cls idx r0.1 ∈ jj_gw) (kk : jj_J p l e R s m args below meth c D base nL Q nx lc (.int 1 :: st) h kc ks) : jj_J p l e R s m args below meth c D base nL Q pc lc (.ref a :: st) h kc ks := by
  obtain ⟨hx, hb, hml, hown, hts, hg, hE, -, -, -⟩ := C
  obtain ⟨a1, a2, -⟩ := jj_good_at hg hf
  subst a2
  exact fun H locs ls hw hS hl => va_instE hx hb hown (hts _ w1) (jj_recv hE hw ho hcl) a1 (kk H locs ls hw hS hl)
theorem jj_castY (C : jj_C p s m args meth c y cc nL ret tb D aC base) {ci : Nat} {fs : List Value} {r0 : vw_C} (hf : jj_look tb pc = some (.checkcast idx, nx, tg, kv)) (ho : h a = some (.inr (ci, fs))) (hcl : jj_cl[ci]? = some r0) (w1 : Cond.classLink y.cls idx r0.1 ∈ jj_gw) (kk : jj_J p l e R s m args below meth c D base nL Q nx lc (.ref a :: st) h kc ks) : jj_J p l e R s m args below meth c D base nL Q pc lc (.ref a :: st) h kc ks := by
  obtain ⟨hx, hb, hml, hown, hts, hg, hE, -, -, -⟩ := C
  obtain ⟨a1, a2, -⟩ := jj_good_at hg hf
  subst a2
  exact fun H locs ls hw hS hl => va_castE hx hb hown (hts _ w1) (jj_recv hE hw ho hcl) a1 (kk H locs ls hw hS hl)
end JJS
section KS
variable {l : Launch} {D : va_G} {aC : Nat → ClassId} {base : Nat} {h : jjHp}
theorem kx_ST_coder {a b : Nat} {hs hz : Int32} (ho : h a = some (kx_st b hs hz)) : jj_Ct l D aC base yn_ST_coder yb_ST_coder 1 (some .byte) 0 0 0 [.ref a] h (fun r h' => r = some (.int 0) ∧ h' = h) := by
  refine jj_start (tb := tb_ST_coder) (by decide) tg_ST_coder (Nat.le_of_ble_eq_true rfl) ?_
  intro p e s m args below meth c C
  refine jj_gets C rfl wd_280 ?_
  refine jj_if C rfl (fun hc => absurd hc (by decide)) (fun _ => ?_)
  refine jj_go C 1 rfl ?_
  refine jj_getf C rfl fl_ST_15 ho rfl ?_
  refine jj_go C 1 rfl ?_
  exact jj_iret C rfl rfl rfl (Nat.le_refl _) (Nat.le_refl _) ⟨rfl, rfl⟩
theorem kx_ST_isLatin1 {a b : Nat} {hs hz : Int32} (ho : h a = some (kx_st b hs hz)) : jj_Ct l D aC base yn_ST_isLatin1 yb_ST_isLatin1 1 (some .boolean) 0 0 0 [.ref a] h (fun r h' => r = some (.int 1) ∧ h' = h) := by
  refine jj_start (tb := tb_ST_isLatin1) (by decide) tg_ST_isLatin1 (Nat.le_of_ble_eq_true rfl) ?_
  intro p e s m args below meth c C
  refine jj_gets C rfl wd_280 ?_
  refine jj_if C rfl (fun hc => absurd hc (by decide)) (fun _ => ?_)
  refine jj_go C 1 rfl ?_
  refine jj_getf C rfl fl_ST_15 ho rfl ?_
  refine jj_if C rfl (fun _ => ?_) (fun hc => absurd rfl hc)
  refine jj_go C 2 rfl ?_
  exact jj_iret C rfl rfl rfl (Nat.le_refl _) (Nat.le_refl _) ⟨rfl, rfl⟩
theorem kx_ST_length {a b n : Nat} {hs hz : Int32} {f : Nat → Int32} (ho : h a = some (kx_st b hs hz)) (hv : h b = some (kx_ba aC n f)) : jj_Ct l D aC base yn_ST_length yb_ST_length 1 (some .int) 1 0 0 [.ref a] h (fun r h' => r = some (.int (nI n)) ∧ h' = h) := by
  refine jj_start (tb := tb_ST_length) (by decide) tg_ST_length (Nat.le_of_ble_eq_true rfl) ?_
  intro p e s m args below meth c C
  refine jj_go C 1 rfl ?_
  refine jj_getf C rfl fl_ST_9 ho rfl ?_
  refine jj_alen C 4 rfl hv rfl ?_
  refine jj_go C 1 rfl ?_
  refine jj_callV C rfl ml_ST_335 wd_368 ho rfl se_ST_ST_coder (kx_ST_coder ho) (rest := [.int (nI n)]) rfl rfl ⟨Nat.le_refl _, Nat.le_of_ble_eq_true rfl⟩ (Nat.le_refl _) (Nat.le_refl _) (Nat.le_of_ble_eq_true rfl) ?_
  rintro r h' ⟨rfl, rfl⟩
  refine jj_go C 1 rfl ?_
  refine jj_top (sb_shr0 _) ?_
  exact jj_iret C rfl rfl rfl (Nat.le_refl _) (Nat.le_refl _) ⟨rfl, rfl⟩
theorem kx_ST_isEmpty {a b n : Nat} {hs hz : Int32} {f : Nat → Int32} (ho : h a = some (kx_st b hs hz)) (hv : h b = some (kx_ba aC n f)) (hn : n < 2 ^ 31) : jj_Ct l D aC base yn_ST_isEmpty yb_ST_isEmpty 1 (some .boolean) 0 0 0 [.ref a] h (fun r h' => r = some (.int (if n = 0 then 1 else 0)) ∧ h' = h) := by
  refine jj_start (tb := tb_ST_isEmpty) (by decide) tg_ST_isEmpty (Nat.le_of_ble_eq_true rfl) ?_
  intro p e s m args below meth c C
  refine jj_go C 1 rfl ?_
  refine jj_getf C rfl fl_ST_9 ho rfl ?_
  refine jj_alen C 4 rfl hv rfl ?_
  refine jj_if C rfl (fun hc => ?_) (fun hc => ?_)
  · have h0 : n = 0 := (nI_eq hn (by decide)).mp (hc.trans nI_0.symm)
    subst h0
    refine jj_go C 2 rfl ?_
    exact jj_iret C rfl rfl rfl (Nat.le_refl _) (Nat.le_refl _) ⟨rfl, rfl⟩
  · have h0 : ¬ n = 0 := fun z => hc (by subst z; rfl)
    refine jj_go C 1 rfl ?_
    exact jj_iret C rfl rfl rfl (Nat.le_refl _) (Nat.le_refl _) ⟨by rw [if_neg h0], rfl⟩
/-- isEmpty of the class's own "" -/
theorem kx_ST_isEmpty0 : jj_Ct l D aC base yn_ST_isEmpty yb_ST_isEmpty 1 (some .boolean) 0 0 0 [.ref (aC 100)] h (fun r h' => r = some (.int 1) ∧ h' = h) := by
  refine jj_start (tb := tb_ST_isEmpty) (by decide) tg_ST_isEmpty (Nat.le_of_ble_eq_true rfl) ?_
  intro p e s m args below meth c C
  refine jj_go C 1 rfl ?_
  refine jj_litv C rfl wd_294 ?_
  refine jj_litl C rfl ?_
  refine jj_if C rfl (fun hc => ?_) (fun hc => absurd rfl hc)
  refine jj_go C 2 rfl ?_
  exact jj_iret C rfl rfl rfl (Nat.le_refl _) (Nat.le_refl _) ⟨rfl, rfl⟩
theorem kx_PR_checkIndex {i n : Nat} {v : Value} (hv : v = .null ∨ ∃ t, v = .ref t) (hi : i < n) (hn : n < 2 ^ 31) : jj_Ct l D aC base yn_PR_checkIndex yb_PR_checkIndex 3 (some .int) 0 0 0 [.int (nI i), .int (nI n), v] h (fun r h' => r = some (.int (nI i)) ∧ h' = h) := by
  have hz : (lg_sl [.int (nI i), .int (nI n), v]).length ≤ 3 := by
    rcases hv with rfl | ⟨t, rfl⟩ <;> exact Nat.le_of_ble_eq_true rfl
  refine jj_start (tb := tb_PR_checkIndex) (by decide) tg_PR_checkIndex hz ?_
  intro p e s m args below meth c C
  refine jj_go C 1 rfl ?_
  refine jj_if C rfl (fun hc => absurd hc (nI_pos (by omega))) (fun _ => ?_)
  refine jj_go C 2 rfl ?_
  refine jj_if C rfl (fun _ => ?_) (fun hc => absurd (nI_lt hi hn) hc)
  refine jj_go C 1 rfl ?_
  exact jj_iret C rfl rfl rfl (Nat.le_refl _) (Nat.le_refl _) ⟨rfl, rfl⟩
theorem kx_ST_checkIndex {i n : Nat} (hi : i < n) (hn : n < 2 ^ 31) : jj_Ct l D aC base yn_ST_checkIndex yb_ST_checkIndex 2 none 1 0 0 [.int (nI i), .int (nI n)] h (fun r h' => r = none ∧ h' = h) := by
  refine jj_start (tb := tb_ST_checkIndex) (by decide) tg_ST_checkIndex (Nat.le_of_ble_eq_true rfl) ?_
  intro p e s m args below meth c C
  refine jj_go C 2 rfl ?_
  refine jj_getq C rfl wd_213 (fun q => ?_)
  have hq : va_rf q = .null ∨ ∃ t, va_rf q = .ref t := by
    cases q with
    | none => exact Or.inl rfl
    | some t => exact Or.inr ⟨t, rfl⟩
  refine jj_callS C rfl ml_ST_1059 wd_237 (kx_PR_checkIndex (v := va_rf q) hq hi hn) (rest := []) rfl rfl ⟨Nat.le_refl _, Nat.le_of_ble_eq_true rfl⟩ (Nat.le_refl _) (Nat.le_refl _) (Nat.zero_le _) ?_
  rintro r h' ⟨rfl, rfl⟩
  refine jj_go C 1 rfl ?_
  exact jj_vret C rfl rfl (Nat.le_refl _) (Nat.le_refl _) ⟨rfl, rfl⟩
theorem kx_SL_charAt {b n i k : Nat} {f : Nat → Int32} (hv : h b = some (kx_ba aC n f)) (hi : i < n) (hn : n < 2 ^ 31) (hf : f i = nI k) (hk : k < 128) : jj_Ct l D aC base yn_SL_charAt yb_SL_charAt 2 (some .char) 2 0 0 [.ref b, .int (nI i)] h (fun r h' => r = some (.int (nI k)) ∧ h' = h) := by
  refine jj_start (tb := tb_SL_charAt) (by decide) tg_SL_charAt (Nat.le_of_ble_eq_true rfl) ?_
  intro p e s m args below meth c C
  refine jj_go C 2 rfl ?_
  refine jj_alen C 4 rfl hv rfl ?_
  refine jj_callS C rfl ml_SL_9 wd_234 (kx_ST_checkIndex hi hn) (rest := []) rfl rfl ⟨Nat.le_refl _, Nat.le_of_ble_eq_true rfl⟩ (Nat.le_refl _) (Nat.le_refl _) (Nat.zero_le _) ?_
  rintro r h' ⟨rfl, rfl⟩
  refine jj_go C 2 rfl ?_
  refine jj_bald C rfl hv rfl hi hn ?_
  refine jj_top hf ?_
  refine jj_go C 3 rfl ?_
  refine jj_top (ky_and k hk) ?_
  exact jj_iret C rfl rfl (pk_charN (q := k) (by omega)).1 (Nat.le_refl _) (Nat.le_refl _) ⟨rfl, rfl⟩
theorem kx_ST_charAt {a b n i k : Nat} {hs hz : Int32} {f : Nat → Int32} (ho : h a = some (kx_st b hs hz)) (hv : h b = some (kx_ba aC n f)) (hi : i < n) (hn : n < 2 ^ 31) (hf : f i = nI k) (hk : k < 128) : jj_Ct l D aC base yn_ST_charAt yb_ST_charAt 2 (some .char) 3 0 0 [.ref a, .int (nI i)] h (fun r h' => r = some (.int (nI k)) ∧ h' = h) := by
  refine jj_start (tb := tb_ST_charAt) (by decide) tg_ST_charAt (Nat.le_of_ble_eq_true rfl) ?_
  intro p e s m args below meth c C
  refine jj_go C 1 rfl ?_
  refine jj_callV C rfl ml_ST_492 wd_376 ho rfl se_ST_ST_isLatin1 (kx_ST_isLatin1 ho) (rest := []) rfl rfl ⟨Nat.le_of_ble_eq_true rfl, Nat.le_of_ble_eq_true rfl⟩ (Nat.le_refl _) (Nat.le_refl _) (Nat.zero_le _) ?_
  rintro r h' ⟨rfl, rfl⟩
  refine jj_if C rfl (fun hc => absurd hc (by decide)) (fun _ => ?_)
  refine jj_go C 1 rfl ?_
  refine jj_getf C rfl fl_ST_9 ho rfl ?_
  refine jj_go C 1 rfl ?_
  refine jj_callS C rfl ml_ST_495 wd_380 (kx_SL_charAt hv hi hn hf hk) (rest := []) rfl rfl ⟨Nat.le_refl _, Nat.le_of_ble_eq_true rfl⟩ (Nat.le_refl _) (Nat.le_refl _) (Nat.zero_le _) ?_
  rintro r h' ⟨rfl, rfl⟩
  exact jj_iret C rfl rfl (pk_charN (q := k) (by omega)).1 (Nat.le_refl _) (Nat.le_refl _) ⟨rfl, rfl⟩
theorem kx_SL_equals {b1 b2 n1 n2 : Nat} {f g : Nat → Int32} (hv1 : h b1 = some (kx_ba aC n1 f)) (hv2 : h b2 = some (kx_ba aC n2 g)) (hn1 : n1 < 2 ^ 31) (hn2 : n2 < 2 ^ 31) : jj_Ct l D aC base yn_SL_equals yb_SL_equals 3 (some .boolean) 0 0 0 [.ref b1, .ref b2] h (fun r h' => ∃ v : Int32, r = some (.int v) ∧ ((v = 1 ∧ n1 = n2 ∧ ∀ i, i < n1 → f i = g i) ∨ (v = 0 ∧ ¬ (n1 = n2 ∧ ∀ i, i < n1 → f i = g i))) ∧ h' = h) := by
  refine jj_start (tb := tb_SL_equals) (by decide) tg_SL_equals (Nat.le_of_ble_eq_true rfl) ?_
  intro p e s m args below meth c C
  refine jj_go C 1 rfl ?_
  refine jj_alen C 4 rfl hv1 rfl ?_
  refine jj_go C 1 rfl ?_
  refine jj_alen C 4 rfl hv2 rfl ?_
  refine jj_if C rfl (fun hc => ?_) (fun hc => ?_)
  · have hnn : n1 = n2 := (nI_eq hn1 hn2).mp hc
    subst hnn
    have loop : ∀ (k j : Nat) (v : Int32), v = nI j → j + k = n1 → (∀ i, i < j → f i = g i) → jj_J p l e (jj_rm 0 0 0) s m args below meth c D base 3 (MQ below (jj_Q D base (fun r h' => ∃ v : Int32, r = some (.int v) ∧ ((v = 1 ∧ n1 = n1 ∧ ∀ i, i < n1 → f i = g i) ∨ (v = 0 ∧ ¬ (n1 = n1 ∧ ∀ i, i < n1 → f i = g i))) ∧ h' = h)) args s 0 0 (jj_A base)) 9 [(0, .ref b1), (1, .ref b2), (2, .int v)] [] h 0 0 := by
      intro k
      induction k with
      | zero =>
        intro j v hj hk hi
        have hjn : j = n1 := by omega
        subst hjn
        refine jj_go C 2 rfl ?_
        refine jj_alen C 4 rfl hv1 rfl ?_
        refine jj_if C rfl (fun _ => ?_) (fun hc => absurd (by rw [hj]; exact nI_le (Nat.le_refl _) hn1) hc)
        refine jj_go C 1 rfl ?_
        exact jj_iret C rfl rfl rfl (Nat.le_refl _) (Nat.le_refl _) ⟨1, rfl, Or.inl ⟨rfl, rfl, hi⟩, rfl⟩
      | succ k ih =>
        intro j v hj hk hi
        have hlt : j < n1 := by omega
        refine jj_go C 2 rfl ?_
        refine jj_alen C 4 rfl hv1 rfl ?_
        refine jj_if C rfl (fun hc => absurd hc (by rw [hj]; exact nI_ge hlt hn1)) (fun _ => ?_)
        refine jj_go C 2 rfl ?_
        refine jj_bald C rfl hv1 hj hlt hn1 ?_
        refine jj_go C 2 rfl ?_
        refine jj_bald C rfl hv2 hj hlt hn1 ?_
        refine jj_if C rfl (fun hc => ?_) (fun hc => ?_)
        · refine jj_go C 2 rfl ?_
          exact ih (j + 1) (v + 1) (by rw [hj, nI_1]) (by omega) (lt_s hi hc)
        · refine jj_go C 1 rfl ?_
          exact jj_iret C rfl rfl rfl (Nat.le_refl _) (Nat.le_refl _) ⟨0, rfl, Or.inr ⟨rfl, fun z => hc (z.2 j hlt)⟩, rfl⟩
    refine jj_go C 2 rfl ?_
    exact loop n1 0 0 nI_0.symm (by omega) (fun i hi => absurd hi (Nat.not_lt_zero _))
  · refine jj_go C 1 rfl ?_
    exact jj_iret C rfl rfl rfl (Nat.le_refl _) (Nat.le_refl _) ⟨0, rfl, Or.inr ⟨rfl, fun z => hc (by rw [z.1])⟩, rfl⟩
theorem kx_ST_equals {a1 a2 b1 b2 n1 n2 : Nat} {s1 z1 s2 z2 : Int32} {f g : Nat → Int32} (ho1 : h a1 = some (kx_st b1 s1 z1)) (hv1 : h b1 = some (kx_ba aC n1 f)) (ho2 : h a2 = some (kx_st b2 s2 z2)) (hv2 : h b2 = some (kx_ba aC n2 g)) (hn1 : n1 < 2 ^ 31) (hn2 : n2 < 2 ^ 31) : jj_Ct l D aC base yn_ST_equals yb_ST_equals 3 (some .boolean) 1 0 0 [.ref a1, .ref a2] h (fun r h' => ∃ v : Int32, r = some (.int v) ∧ ((v = 1 ∧ n1 = n2 ∧ ∀ i, i < n1 → f i = g i) ∨ (v = 0 ∧ ¬ (n1 = n2 ∧ ∀ i, i < n1 → f i = g i))) ∧ h' = h) := by
  refine jj_start (tb := tb_ST_equals) (by decide) tg_ST_equals (Nat.le_of_ble_eq_true rfl) ?_
  intro p e s m args below meth c C
  refine jj_go C 2 rfl ?_
  refine jj_acmpne C rfl (fun _ => ?_) (fun he => ?_)
  · refine jj_go C 1 rfl ?_
    refine jj_instY C rfl ho2 rfl wd_480 ?_
    refine jj_if C rfl (fun hc => absurd hc (by decide)) (fun _ => ?_)
    refine jj_go C 1 rfl ?_
    refine jj_castY C rfl ho2 rfl wd_480 ?_
    refine jj_go C 1 rfl ?_
    refine jj_gets C rfl wd_280 ?_
    refine jj_if C rfl (fun hc => absurd hc (by decide)) (fun _ => ?_)
    refine jj_go C 1 rfl ?_
    refine jj_getf C rfl fl_ST_15 ho1 rfl ?_
    refine jj_go C 1 rfl ?_
    refine jj_getf C rfl fl_ST_15 ho2 rfl ?_
    refine jj_if C rfl (fun _ => ?_) (fun hc => absurd rfl hc)
    refine jj_go C 1 rfl ?_
    refine jj_getf C rfl fl_ST_9 ho1 rfl ?_
    refine jj_go C 1 rfl ?_
    refine jj_getf C rfl fl_ST_9 ho2 rfl ?_
    refine jj_callS C rfl ml_ST_541 wd_482 (kx_SL_equals hv1 hv2 hn1 hn2) (rest := []) rfl rfl ⟨Nat.le_refl _, Nat.le_of_ble_eq_true rfl⟩ (Nat.le_refl _) (Nat.le_refl _) (Nat.zero_le _) ?_
    rintro r h' ⟨v, rfl, hv, rfl⟩
    rcases hv with ⟨rfl, hv⟩ | ⟨rfl, hv⟩
    · refine jj_if C rfl (fun hc => absurd hc (by decide)) (fun _ => ?_)
      refine jj_go C 2 rfl ?_
      exact jj_iret C rfl rfl rfl (Nat.le_refl _) (Nat.le_refl _) ⟨1, rfl, Or.inl ⟨rfl, hv⟩, rfl⟩
    · refine jj_if C rfl (fun _ => ?_) (fun hc => absurd rfl hc)
      refine jj_go C 1 rfl ?_
      exact jj_iret C rfl rfl rfl (Nat.le_refl _) (Nat.le_refl _) ⟨0, rfl, Or.inr ⟨rfl, hv⟩, rfl⟩
  · subst he
    rw [ho1] at ho2
    cases ho2
    rw [hv1] at hv2
    cases hv2
    refine jj_go C 1 rfl ?_
    exact jj_iret C rfl rfl rfl (Nat.le_refl _) (Nat.le_refl _) ⟨1, rfl, Or.inl ⟨rfl, rfl, fun _ _ => rfl⟩, rfl⟩
end KS
