/-! The law: its loop, its beginning -/
theorem lw_le {i L : Nat} (h : i + 5 ≤ L) (hL : L ≤ 2560) : ¬ (nI L - 5 < nI i) := by
  have e : nI L - 5 = nI (L - 5) := by
    rw [show nI L = nI (L - 5) + 5 from by rw [show L = L - 5 + 5 by omega]; exact (nI_add (L - 5) 5).symm, Int32.add_sub_cancel]
  rw [e, Int32.lt_iff_toInt_lt, nI_toInt (by omega), nI_toInt (by omega)]
  omega
theorem lw_gt {i L : Nat} (h : L ≤ i + 4) (hL : L ≤ 2560) (hi : i ≤ 2560) : nI L - 5 < nI i := by
  by_cases h5 : 5 ≤ L
  · have e : nI L - 5 = nI (L - 5) := by
      rw [show nI L = nI (L - 5) + 5 from by rw [show L = L - 5 + 5 by omega]; exact (nI_add (L - 5) 5).symm, Int32.add_sub_cancel]
    rw [e, Int32.lt_iff_toInt_lt, nI_toInt (by omega), nI_toInt (by omega)]
    omega
  · have d5 : ∀ L, L < 5 → (nI L - 5).toInt < 0 := by decide
    rw [Int32.lt_iff_toInt_lt, nI_toInt (by omega)]
    have := d5 L (by omega)
    omega
section LWL
variable {p : Program} {l : Launch} {e : Env} {s : State} {m : MethodId} {below : List Frame} {meth : Method} {c : Code} {D : va_G} {aC : Nat → ClassId} {b L yy : Nat} {xs : Nat → Int32} {ca ad : Nat → Nat}
theorem lw_loop (C : jj_C p s m #[Value.ref b] meth c x code 4 ret tb_LW_m D aC s.heap.size) (hA : jA aC) (h11 : ca 11 ≠ ad 20) (hX : va_X b L xs s s.heap) (hbl : b < s.heap.size) (hL : L ≤ 2560) (fin : ∀ lc h kc ks, kc ≤ 600000 → ks ≤ 7302250 → lw_J p l e s m below meth c D b 660 lc [] h kc ks) : ∀ (n i : Nat) (h : jjHp) (kc ks : Nat), IV aC h ca yy ad → L ≤ i + 5 * n + 4 → i ≤ 2560 → 5 * kc ≤ 1000 + 83 * i → 5 * ks ≤ 13000 + 9576 * i → lw_J p l e s m below meth c D b 18 [(0, .ref b), (1, .ref (ca 0)), (2, .ref yy), (3, .int (nI i))] [] h kc ks := by
  intro n
  induction n with
  | zero =>
    intro i h kc ks hI hn hi hkc hks
    refine jj_go C 2 rfl ?_
    refine jj_slen C hX hbl rfl ?_
    refine jj_go C 2 rfl ?_
    refine jj_if C rfl (fun _ => ?_) (fun z => absurd (lw_gt (by omega) hL hi) z)
    exact fin _ _ _ _ (by omega) (by omega)
  | succ n ih =>
    intro i h kc ks hI hn hi hkc hks
    refine jj_go C 2 rfl ?_
    refine jj_slen C hX hbl rfl ?_
    refine jj_go C 2 rfl ?_
    by_cases h5 : i + 5 ≤ L
    rotate_left
    · refine jj_if C rfl (fun _ => ?_) (fun z => absurd (lw_gt (by omega) hL hi) z)
      exact fin _ _ _ _ (by omega) (by omega)
    refine jj_if C rfl (fun z => absurd z (lw_le h5 hL)) (fun _ => ?_)
    refine jj_go C 2 rfl ?_
    refine jj_sld C hX hbl rfl (j := i) rfl (by omega) (by omega) ?_
    refine jj_go C 2 rfl ?_
    obtain ⟨w, hw, ew⟩ := pk_andE (xs i) (m := 31) 5 (by decide)
    refine jj_top ew ?_
    have K : ∀ h' kc' ks', IV aC h' ca yy ad → kc' ≤ kc + 83 → ks' ≤ ks + 9576 → lw_J p l e s m below meth c D b 654 [(0, .ref b), (1, .ref (ca 0)), (2, .ref yy), (3, .int (nI i))] [] h' kc' ks' := by
      intro h' kc' ks' hI' h1 h2
      refine jj_go (C.tab tg_LW_z) 2 rfl ?_
      refine jj_eq (lc' := [(0, .ref b), (1, .ref (ca 0)), (2, .ref yy), (3, .int (nI (i + 5)))]) rfl (by rw [← nI_add i 5]; rfl) rfl rfl ?_
      exact ih (i + 5) h' kc' ks' hI' (by omega) (by omega) (by omega) (by omega)
    have h4 : i + 4 < L := by omega
    have k1 : kc + 83 ≤ 600000 := by omega
    have k2 : ks + 9576 ≤ 7302250 := by omega
    match w, hw with
    | 0, _ => exact jj_tabIn C lw_sw (by decide) (by decide) (show _ = some 92 from rfl) (by decide) (lc_write (C.tab tg_LW_write) hA h11 hI hX hbl h4 hL k1 k2 K)
    | 1, _ => exact jj_tabIn C lw_sw (by decide) (by decide) (show _ = some 117 from rfl) (by decide) (lc_register (C.tab tg_LW_register) hA h11 hI hX hbl h4 hL k1 k2 K)
    | 2, _ => exact jj_tabIn C lw_sw (by decide) (by decide) (show _ = some 130 from rfl) (by decide) (lc_unregister (C.tab tg_LW_unregister) hA h11 hI hX hbl h4 hL k1 k2 K)
    | 3, _ => exact jj_tabIn C lw_sw (by decide) (by decide) (show _ = some 143 from rfl) (by decide) (lc_find (C.tab tg_LW_find) hA h11 hI hX hbl h4 hL k1 k2 K)
    | 4, _ => exact jj_tabIn C lw_sw (by decide) (by decide) (show _ = some 156 from rfl) (by decide) (lc_set (C.tab tg_LW_set) hA h11 hI hX hbl h4 hL k1 k2 K)
    | 5, _ => exact jj_tabIn C lw_sw (by decide) (by decide) (show _ = some 199 from rfl) (by decide) (lc_unset (C.tab tg_LW_unset) hA h11 hI hX hbl h4 hL k1 k2 K)
    | 6, _ => exact jj_tabIn C lw_sw (by decide) (by decide) (show _ = some 232 from rfl) (by decide) (lc_get (C.tab tg_LW_get) hA h11 hI hX hbl h4 hL k1 k2 K)
    | 7, _ => exact jj_tabIn C lw_sw (by decide) (by decide) (show _ = some 265 from rfl) (by decide) (lc_define (C.tab tg_LW_define) hA h11 hI hX hbl h4 hL k1 k2 K)
    | 8, _ => exact jj_tabIn C lw_sw (by decide) (by decide) (show _ = some 278 from rfl) (by decide) (lc_check (C.tab tg_LW_check) hA h11 hI hX hbl h4 hL k1 k2 K)
    | 9, _ => exact jj_tabIn C lw_sw (by decide) (by decide) (show _ = some 311 from rfl) (by decide) (lc_select (C.tab tg_LW_select) hA h11 hI hX hbl h4 hL k1 k2 K)
    | 10, _ => exact jj_tabIn C lw_sw (by decide) (by decide) (show _ = some 334 from rfl) (by decide) (lc_selected (C.tab tg_LW_selected) hA h11 hI hX hbl h4 hL k1 k2 K)
    | 11, _ => exact jj_tabIn C lw_sw (by decide) (by decide) (show _ = some 357 from rfl) (by decide) (lc_form (C.tab tg_LW_form) hA h11 hI hX hbl h4 hL k1 k2 K)
    | 12, _ => exact jj_tabIn C lw_sw (by decide) (by decide) (show _ = some 400 from rfl) (by decide) (lc_counter (C.tab tg_LW_counter) hA h11 hI hX hbl h4 hL k1 k2 K)
    | 13, _ => exact jj_tabIn C lw_sw (by decide) (by decide) (show _ = some 453 from rfl) (by decide) (lc_gauge (C.tab tg_LW_gauge) hA h11 hI hX hbl h4 hL k1 k2 K)
    | 14, _ => exact jj_tabIn C lw_sw (by decide) (by decide) (show _ = some 506 from rfl) (by decide) (lc_cancel (C.tab tg_LW_cancel) hA h11 hI hX hbl h4 hL k1 k2 K)
    | 15, _ => exact jj_tabIn C lw_sw (by decide) (by decide) (show _ = some 529 from rfl) (by decide) (lc_observe (C.tab tg_LW_observe) hA h11 hI hX hbl h4 hL k1 k2 K)
    | 16, _ => exact jj_tabIn C lw_sw (by decide) (by decide) (show _ = some 542 from rfl) (by decide) (lc_mark (C.tab tg_LW_mark) hA h11 hI hX hbl h4 hL k1 k2 K)
    | 17, _ => exact jj_tabIn C lw_sw (by decide) (by decide) (show _ = some 566 from rfl) (by decide) (lc_listen (C.tab tg_LW_listen) hA h11 hI hX hbl h4 hL k1 k2 K)
    | 18, _ => exact jj_tabIn C lw_sw (by decide) (by decide) (show _ = some 589 from rfl) (by decide) (lc_notice (C.tab tg_LW_notice) hA h11 hI hX hbl h4 hL k1 k2 K)
    | w + 19, hw => exact jj_tabOut C lw_sw (Or.inr (by rw [nI_toInt (by omega)]; omega)) (by decide) (K h kc ks hI (by omega) (by omega))
end LWL
theorem nodup_inj {f : Nat → Nat} : ∀ {l : List Nat}, (l.map f).Nodup → ∀ a, a ∈ l → ∀ b, b ∈ l → f a = f b → a = b
  | [], _, a, ha, _, _, _ => by cases ha
  | c :: l, h, a, ha, b, hb, hab => by
    obtain ⟨h1, h2⟩ := List.nodup_cons.mp (show (f c :: l.map f).Nodup from h)
    rcases List.mem_cons.mp ha with qa | qa
    · rcases List.mem_cons.mp hb with qb | qb
      · exact qa.trans qb.symm
      · exact absurd (by rw [← qa, hab]; exact List.mem_map_of_mem qb) h1
    · rcases List.mem_cons.mp hb with qb | qb
      · exact absurd (by rw [← qb, ← hab]; exact List.mem_map_of_mem qa) h1
      · exact nodup_inj h2 a qa b qb hab
def io_0 : Nat → Int32 := fun k => if k = 16 then 63 else 0
/-- the reference behind its maker -/
theorem RR.start {aC : Nat → ClassId} {h0 h : jjHp} {y : Nat} {ad : Nat → Nat} (hI : jj_OI h0 h y 9 (ix_MO_fs ad) (ix_MO_L aC ad)) : RR aC h y ad (fun _ => []) (fun _ _ => 0) (fun _ => 0) io_0 := by
  obtain ⟨o1, o2, o3, -⟩ := hI
  have e0 : va_up (va_up (fun (_ : Nat) (_ : Nat) => (0 : Int32)) 0 (fun _ => 0)) 1 (fun _ => 0) = fun _ _ => 0 := by
    funext k
    unfold va_up
    split
    · rfl
    · split <;> rfl
  refine ⟨fun _ => 0, fun _ => 0, ?_, fun r _ => ⟨rfl, Nat.zero_le _, fun i hi => absurd hi (Nat.not_lt_zero _)⟩⟩
  rw [e0]
  have at9 : ∀ (n : Nat) (q : Nat × Nat × va_E), (ix_MO_L aC ad)[n]? = some q → h q.2.1 = some q.2.2 := fun n q hq => (o2 q (List.mem_of_getElem? hq)).1
  refine ⟨o1, fun k hk => ?_, at9 11 _ rfl, fun j k hj hk hjk => ?_⟩
  · simp only [List.mem_cons, List.not_mem_nil, or_false] at hk
    rcases hk with rfl | rfl | rfl | rfl | rfl | rfl | rfl | rfl | rfl | rfl | rfl | rfl | rfl | rfl | rfl | rfl | rfl | rfl | rfl | rfl | rfl
    · exact at9 21 _ rfl
    · exact at9 20 _ rfl
    · exact at9 19 _ rfl
    · exact at9 18 _ rfl
    · exact at9 17 _ rfl
    · exact at9 16 _ rfl
    · exact at9 15 _ rfl
    · exact at9 14 _ rfl
    · exact at9 13 _ rfl
    · exact at9 12 _ rfl
    · exact at9 10 _ rfl
    · exact at9 9 _ rfl
    · exact at9 8 _ rfl
    · exact at9 7 _ rfl
    · exact at9 6 _ rfl
    · exact at9 5 _ rfl
    · exact at9 4 _ rfl
    · exact at9 3 _ rfl
    · exact at9 2 _ rfl
    · exact at9 1 _ rfl
    · exact at9 0 _ rfl
  · have hn : ([26, 25, 24, 23, 21, 20, 18, 14, 13, 12, 11, 10, 9, 8, 7, 6, 5, 4, 3, 2, 1, 0].map ad).Nodup := o3
    exact nodup_inj hn j ((show ∀ k, k ∈ rr_all → k ∈ [26, 25, 24, 23, 21, 20, 18, 14, 13, 12, 11, 10, 9, 8, 7, 6, 5, 4, 3, 2, 1, 0] by decide) j hj) k ((show ∀ k, k ∈ rr_all → k ∈ [26, 25, 24, 23, 21, 20, 18, 14, 13, 12, 11, 10, 9, 8, 7, 6, 5, 4, 3, 2, 1, 0] by decide) k hk) hjk
theorem IV.start {aC : Nat → ClassId} {h1 h2 h3 h4 : jjHp} {xx y b0 : Nat} {ca ad : Nat → Nat} (hA : jA aC) (hx : ca 0 = xx) (hI : jj_OI h1 h2 xx 0 (bs_fs ca 0 0 (aC 100)) (ix_BS_L aC ca b0)) (hy : h2 y = none) (h23 : ∀ c e, c ≠ y → h2 c = some e → h3 c = some e) (hJ : jj_OI h3 h4 y 9 (ix_MO_fs ad) (ix_MO_L aC ad)) : IV aC h4 ca y ad ∧ ca 11 ≠ ad 20 := by
  have hf : jj_fr [] h2 h4 := by
    intro c e _ hc
    have hcy : c ≠ y := fun q => by rw [q, hy] at hc; cases hc
    exact hJ.2.2.2.1 c e hcy (h23 c e hcy hc)
  have hC2 := RC.start (r0 := ad 21) (cv := fun _ => 0) (cp := fun _ => 0) (cm := fun _ => 0) (nn := fun _ => []) (rh := fun _ => []) (sg := fun _ _ => 0) (mu := fun _ => 0) (io := io_0) hx hI (fun _ => rfl) (fun _ => rfl) rfl rfl rfl rfl rfl rfl
  refine ⟨⟨b0, fun _ => 0, fun _ => 0, fun _ => 0, fun _ => [], fun _ => [], fun _ _ => 0, fun _ => 0, io_0, 16, 0, 0, aC 100, fun _ => none, fun _ => none, fun _ => none, hC2.new hA hf, RR.start hJ, ⟨fun i j hi hj pi => absurd rfl pi, fun i j hi hj pi => absurd rfl pi⟩, fun i hi hp => absurd rfl hp, ⟨by decide, fun i hi => ⟨fun _ => Nat.zero_le _, fun _ => rfl⟩⟩, fun n hn => absurd hn (Nat.not_lt_zero _), fun m hm hp => absurd rfl hp, rfl, ⟨0, by decide, rfl⟩, fun k => Or.inl rfl⟩, fun q => ?_⟩
  have c11 : h2 (ca 11) = some (.inl (aC 0, 12, .inl (fun _ => 0))) := hC2.2.2.2.2.2.2.2.2.2.1
  have hcy : ca 11 ≠ y := fun z => by rw [z, hy] at c11; cases c11
  have h3c := h23 _ _ hcy c11
  have := (hJ.2.1 (20, ad 20, .inl (aC 0, 12, .inl (fun _ => 0))) (List.mem_of_getElem? (i := 5) rfl)).2
  dsimp only at this
  rw [← q, h3c] at this
  cases this
theorem lw_fin {p : Program} {l : Launch} {e : Env} {s : State} {m : MethodId} {below : List Frame} {meth : Method} {c : Code} {D : va_G} {aC : Nat → ClassId} {b : Nat} (C : jj_C p s m #[Value.ref b] meth c x code 4 ret tb_LW_z D aC s.heap.size) : ∀ lc h kc ks, kc ≤ 600000 → ks ≤ 7302250 → lw_J p l e s m below meth c D b 660 lc [] h kc ks := by
  intro lc h kc ks h1 h2
  refine jj_go C 1 rfl ?_
  intro H locs ls hw hS hl
  exact va_forget (fun q hq => hS.2.2 q hq) (W.widen h1 h2 (lw_ret C.1 C.2.1 C.2.2.2.2.2.2.2.2.2 C.2.2.2.2.2.2.2.1 (by decide +kernel)))
/-- YOUR PART: from the entry, for every script of at most 2560 ints, the law comes to its end with true -/
theorem whole_start {p : Program} {e : Env} {s : State} {m : MethodId} {below : List Frame} {meth : Method} {c : Code} (l : Launch) {b L : Nat} {xs : Nat → Int32} (hL : L ≤ 2560) (C0 : lw_At p s m meth c b L xs) : W p l e room_1 s m #[Value.ref b] below meth c s.heap [] 0 0 (lw_Z below #[Value.ref b] s) (entryFrame m ([Value.ref b] : List Value).toArray 4) := by
  obtain ⟨c1, c2, c3, c4, c5, c6, c7, c8, c9, c10⟩ := C0
  obtain ⟨D, aC, hE, hA⟩ := law_E c6 c10
  have C : jj_C p s m #[Value.ref b] meth c x code 4 ret tb_LW_m D aC s.heap.size := ⟨c1, c2, c4, c5, xs_all c6, tg_LW_m, hE, c9, fun q => absurd q (by decide), c3⟩
  have hw : jj_W D s.heap.size (fun _ => none) s.heap := ⟨[], (fun k q hq => by cases hq), ⟨(fun i j p q hp => by cases hp), (fun k q hq => by cases hq)⟩, (fun a e h => by cases h)⟩
  have hl := lv_entry [Value.ref b] (n := 4) (Nat.le_of_ble_eq_true rfl)
  have J : lw_J p l e s m below meth c D b 0 [(0, .ref b)] [] (fun _ => none) 0 0 := by
    refine jj_new C rfl nw_LW_7 (Nat.le_of_ble_eq_true rfl) (Nat.le_of_ble_eq_true rfl) (fun xx hxx => ?_)
    refine jj_go C 1 rfl ?_
    refine jj_callI C rfl ml_LW_9 wd_26 rfl (bs_init (x := xx) jj_up_s) (rest := [.ref xx]) rfl rfl ⟨Nat.le_of_ble_eq_true rfl, Nat.le_of_ble_eq_true rfl⟩ (Nat.le_of_ble_eq_true rfl) (Nat.le_of_ble_eq_true rfl) (Nat.le_of_ble_eq_true rfl) ?_
    rintro q9 h2 ⟨rfl, ca, b0, hx, hI⟩
    refine jj_go C 1 rfl ?_
    refine jj_new C rfl nw_LW_10 (Nat.le_of_ble_eq_true rfl) (Nat.le_of_ble_eq_true rfl) (fun yy hyy => ?_)
    refine jj_go C 1 rfl ?_
    refine jj_callI C rfl ml_LW_12 wd_869 rfl (ix_MO_init (x := yy) jj_up_s) (rest := [.ref yy]) rfl rfl ⟨Nat.le_of_ble_eq_true rfl, Nat.le_of_ble_eq_true rfl⟩ (Nat.le_of_ble_eq_true rfl) (Nat.le_of_ble_eq_true rfl) (Nat.le_of_ble_eq_true rfl) ?_
    rintro q9 h4 ⟨rfl, ad, hJ⟩
    obtain ⟨hIV, h11⟩ := IV.start hA hx hI hyy (fun c e hc h2c => (jj_up_n hc).trans h2c) hJ
    subst hx
    refine jj_go C 3 rfl ?_
    exact lw_loop C hA h11 c7 c8 hL (lw_fin (C.tab tg_LW_z)) 512 0 h4 _ _ hIV (by omega) (by decide) (Nat.le_of_ble_eq_true rfl) (Nat.le_of_ble_eq_true rfl)
  rw [lg_entry_eq]
  exact J s.heap [] _ hw va_S.rf hl
