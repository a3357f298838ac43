/-- a new BeanServer$Log: its fields, its own arrays -/
abbrev ix_LG_fs (ad : Nat → Nat) : List Value := [.ref (ad 0), .ref (ad 1), .ref (ad 2), .ref (ad 3), .int 0, .int 0, .int 0, .int 63]
abbrev ix_LG_L (aC : Nat → ClassId) (ad : Nat → Nat) : List (Nat × Nat × va_E) := [(3, ad 3, .inl (aC 0, 16, .inl (fun _ => 0))), (2, ad 2, .inl (aC 0, 16, .inl (fun _ => 0))), (1, ad 1, .inl (aC 0, 16, .inl (fun _ => 0))), (0, ad 0, .inl (aC 0, 16, .inl (fun _ => 0)))]
set_option maxHeartbeats 4000000 in
set_option maxRecDepth 100000 in
theorem ix_LG_init {l : Launch} {D : va_G} {aC : Nat → ClassId} {base : Nat} {h : jjHp} {x : Nat} (ho : h x = some (.inr (2, [.null, .null, .null, .null, .int 0, .int 0, .int 0, .int 0]))) : jj_Ct l D aC base yn_LG_init yb_LG_init 1 none 1 4 64 [.ref x] h (fun r h' => r = none ∧ ∃ ad : Nat → Nat, jj_OI h h' x 2 (ix_LG_fs ad) (ix_LG_L aC ad)) := by
  refine jj_start (tb := tb_LG_init) (by decide) tg_LG_init (Nat.le_of_ble_eq_true rfl) ?_
  intro p e s m args below meth c C
  refine jj_go C 1 rfl ?_
  refine jj_objI C rfl wd_75 wd_29 wd_30 ⟨(Nat.le_of_ble_eq_true rfl), (Nat.le_of_ble_eq_true rfl)⟩ (Nat.zero_le _) ?_
  have hI := jj_OI.start ho
  refine jj_go C 2 rfl ?_
  refine jj_arrF C hI 0 (N := 16) (a0 := (16, .inl (fun _ => 0))) rfl wd_103 rfl rfl (fun _ => rfl) rfl (by decide) (Nat.le_of_ble_eq_true rfl) (Nat.le_of_ble_eq_true rfl) rfl fp_LG_9 rfl (Nat.le_of_ble_eq_true rfl) (fun a0 h0 hI => ?_)
  have hI : jj_OI h h0 x 2 [.ref a0, .null, .null, .null, .int 0, .int 0, .int 0, .int 0] _ := hI
  refine jj_go C 2 rfl ?_
  refine jj_arrF C hI 0 (N := 16) (a0 := (16, .inl (fun _ => 0))) rfl wd_103 rfl rfl (fun _ => rfl) rfl (by decide) (Nat.le_of_ble_eq_true rfl) (Nat.le_of_ble_eq_true rfl) rfl fp_LG_15 rfl (Nat.le_of_ble_eq_true rfl) (fun a1 h1 hI => ?_)
  have hI : jj_OI h h1 x 2 [.ref a0, .ref a1, .null, .null, .int 0, .int 0, .int 0, .int 0] _ := hI
  refine jj_go C 2 rfl ?_
  refine jj_arrF C hI 0 (N := 16) (a0 := (16, .inl (fun _ => 0))) rfl wd_103 rfl rfl (fun _ => rfl) rfl (by decide) (Nat.le_of_ble_eq_true rfl) (Nat.le_of_ble_eq_true rfl) rfl fp_LG_18 rfl (Nat.le_of_ble_eq_true rfl) (fun a2 h2 hI => ?_)
  have hI : jj_OI h h2 x 2 [.ref a0, .ref a1, .ref a2, .null, .int 0, .int 0, .int 0, .int 0] _ := hI
  refine jj_go C 2 rfl ?_
  refine jj_arrF C hI 0 (N := 16) (a0 := (16, .inl (fun _ => 0))) rfl wd_103 rfl rfl (fun _ => rfl) rfl (by decide) (Nat.le_of_ble_eq_true rfl) (Nat.le_of_ble_eq_true rfl) rfl fp_LG_21 rfl (Nat.le_of_ble_eq_true rfl) (fun a3 h3 hI => ?_)
  have hI : jj_OI h h3 x 2 [.ref a0, .ref a1, .ref a2, .ref a3, .int 0, .int 0, .int 0, .int 0] _ := hI
  refine jj_go C 2 rfl ?_
  refine jj_numF C hI rfl fl_LG_24 rfl rfl (Nat.le_of_ble_eq_true rfl) (fun h4 hI => ?_)
  have hI : jj_OI h h4 x 2 [.ref a0, .ref a1, .ref a2, .ref a3, .int 0, .int 0, .int 0, .int 0] _ := hI
  refine jj_go C 2 rfl ?_
  refine jj_numF C hI rfl fl_LG_28 rfl rfl (Nat.le_of_ble_eq_true rfl) (fun h5 hI => ?_)
  have hI : jj_OI h h5 x 2 [.ref a0, .ref a1, .ref a2, .ref a3, .int 0, .int 0, .int 0, .int 0] _ := hI
  refine jj_go C 2 rfl ?_
  refine jj_numF C hI rfl fl_LG_31 rfl rfl (Nat.le_of_ble_eq_true rfl) (fun h6 hI => ?_)
  have hI : jj_OI h h6 x 2 [.ref a0, .ref a1, .ref a2, .ref a3, .int 0, .int 0, .int 0, .int 0] _ := hI
  refine jj_go C 2 rfl ?_
  refine jj_numF C hI rfl fl_LG_34 rfl rfl (Nat.le_of_ble_eq_true rfl) (fun h7 hI => ?_)
  have hI : jj_OI h h7 x 2 [.ref a0, .ref a1, .ref a2, .ref a3, .int 0, .int 0, .int 0, .int 63] _ := hI
  exact jj_vret C rfl rfl (Nat.le_of_ble_eq_true rfl) (Nat.le_of_ble_eq_true rfl) ⟨rfl, fun k => [a0, a1, a2, a3].getD k 0, hI⟩
/-- a new BeanServerModel: its fields, its own arrays -/
abbrev ix_MO_fs (ad : Nat → Nat) : List Value := [.ref (ad 0), .ref (ad 1), .ref (ad 2), .ref (ad 3), .ref (ad 4), .ref (ad 5), .ref (ad 6), .ref (ad 7), .ref (ad 8), .ref (ad 9), .ref (ad 10), .ref (ad 11), .ref (ad 12), .ref (ad 13), .ref (ad 14), .int 0, .int 63, .int 0, .ref (ad 18), .int 0, .ref (ad 20), .ref (ad 21), .int 0, .ref (ad 23), .ref (ad 24), .ref (ad 25), .ref (ad 26), .int 0, .int 0]
abbrev ix_MO_L (aC : Nat → ClassId) (ad : Nat → Nat) : List (Nat × Nat × va_E) := [(26, ad 26, .inl (aC 1, 12, .inl (fun _ => 0))), (25, ad 25, .inl (aC 1, 12, .inl (fun _ => 0))), (24, ad 24, .inl (aC 1, 12, .inl (fun _ => 0))), (23, ad 23, .inl (aC 1, 12, .inl (fun _ => 0))), (21, ad 21, .inl (aC 0, 26, .inl (fun _ => 0))), (20, ad 20, .inl (aC 0, 12, .inl (fun _ => 0))), (18, ad 18, .inl (aC 0, 64, .inl (fun _ => 0))), (14, ad 14, .inl (aC 1, 6, .inl (fun _ => 0))), (13, ad 13, .inl (aC 0, 6, .inl (fun _ => 0))), (12, ad 12, .inl (aC 1, 6, .inl (fun _ => 0))), (11, ad 11, .inl (aC 1, 6, .inl (fun _ => 0))), (10, ad 10, .inl (aC 3, 6, .inr (.inl (fun _ => 0)))), (9, ad 9, .inl (aC 0, 6, .inl (fun _ => 0))), (8, ad 8, .inl (aC 0, 6, .inl (fun _ => 0))), (7, ad 7, .inl (aC 0, 6, .inl (fun _ => 0))), (6, ad 6, .inl (aC 0, 6, .inl (fun _ => 0))), (5, ad 5, .inl (aC 1, 6, .inl (fun _ => 0))), (4, ad 4, .inl (aC 1, 60, .inl (fun _ => 0))), (3, ad 3, .inl (aC 0, 60, .inl (fun _ => 0))), (2, ad 2, .inl (aC 1, 12, .inl (fun _ => 0))), (1, ad 1, .inl (aC 0, 34, .inl (fun _ => 0))), (0, ad 0, .inl (aC 2, 2040, .inl (fun _ => 0)))]
set_option maxHeartbeats 4000000 in
set_option maxRecDepth 100000 in
theorem ix_MO_init {l : Launch} {D : va_G} {aC : Nat → ClassId} {base : Nat} {h : jjHp} {x : Nat} (ho : h x = some (.inr (9, [.null, .null, .null, .null, .null, .null, .null, .null, .null, .null, .null, .null, .null, .null, .null, .int 0, .int 0, .int 0, .null, .int 0, .null, .null, .int 0, .null, .null, .null, .null, .int 0, .int 0]))) : jj_Ct l D aC base yn_MO_init yb_MO_init 1 none 1 22 2416 [.ref x] h (fun r h' => r = none ∧ ∃ ad : Nat → Nat, jj_OI h h' x 9 (ix_MO_fs ad) (ix_MO_L aC ad)) := by
  refine jj_start (tb := tb_MO_init) (by decide) tg_MO_init (Nat.le_of_ble_eq_true rfl) ?_
  intro p e s m args below meth c C
  refine jj_go C 1 rfl ?_
  refine jj_objI C rfl wd_871 wd_29 wd_30 ⟨(Nat.le_of_ble_eq_true rfl), (Nat.le_of_ble_eq_true rfl)⟩ (Nat.zero_le _) ?_
  have hI := jj_OI.start ho
  refine jj_go C 2 rfl ?_
  refine jj_arrF C hI 2 (N := 2040) (a0 := (2040, .inl (fun _ => 0))) rfl wd_960 rfl rfl (fun _ => rfl) rfl (by decide) (Nat.le_of_ble_eq_true rfl) (Nat.le_of_ble_eq_true rfl) rfl fp_MO_7 rfl (Nat.le_of_ble_eq_true rfl) (fun a0 h0 hI => ?_)
  have hI : jj_OI h h0 x 9 [.ref a0, .null, .null, .null, .null, .null, .null, .null, .null, .null, .null, .null, .null, .null, .null, .int 0, .int 0, .int 0, .null, .int 0, .null, .null, .int 0, .null, .null, .null, .null, .int 0, .int 0] _ := hI
  refine jj_go C 2 rfl ?_
  refine jj_arrF C hI 0 (N := 34) (a0 := (34, .inl (fun _ => 0))) rfl wd_103 rfl rfl (fun _ => rfl) rfl (by decide) (Nat.le_of_ble_eq_true rfl) (Nat.le_of_ble_eq_true rfl) rfl fp_MO_13 rfl (Nat.le_of_ble_eq_true rfl) (fun a1 h1 hI => ?_)
  have hI : jj_OI h h1 x 9 [.ref a0, .ref a1, .null, .null, .null, .null, .null, .null, .null, .null, .null, .null, .null, .null, .null, .int 0, .int 0, .int 0, .null, .int 0, .null, .null, .int 0, .null, .null, .null, .null, .int 0, .int 0] _ := hI
  refine jj_go C 2 rfl ?_
  refine jj_arrF C hI 1 (N := 12) (a0 := (12, .inl (fun _ => 0))) rfl wd_508 rfl rfl (fun _ => rfl) rfl (by decide) (Nat.le_of_ble_eq_true rfl) (Nat.le_of_ble_eq_true rfl) rfl fp_MO_17 rfl (Nat.le_of_ble_eq_true rfl) (fun a2 h2 hI => ?_)
  have hI : jj_OI h h2 x 9 [.ref a0, .ref a1, .ref a2, .null, .null, .null, .null, .null, .null, .null, .null, .null, .null, .null, .null, .int 0, .int 0, .int 0, .null, .int 0, .null, .null, .int 0, .null, .null, .null, .null, .int 0, .int 0] _ := hI
  refine jj_go C 2 rfl ?_
  refine jj_arrF C hI 0 (N := 60) (a0 := (60, .inl (fun _ => 0))) rfl wd_103 rfl rfl (fun _ => rfl) rfl (by decide) (Nat.le_of_ble_eq_true rfl) (Nat.le_of_ble_eq_true rfl) rfl fp_MO_21 rfl (Nat.le_of_ble_eq_true rfl) (fun a3 h3 hI => ?_)
  have hI : jj_OI h h3 x 9 [.ref a0, .ref a1, .ref a2, .ref a3, .null, .null, .null, .null, .null, .null, .null, .null, .null, .null, .null, .int 0, .int 0, .int 0, .null, .int 0, .null, .null, .int 0, .null, .null, .null, .null, .int 0, .int 0] _ := hI
  refine jj_go C 2 rfl ?_
  refine jj_arrF C hI 1 (N := 60) (a0 := (60, .inl (fun _ => 0))) rfl wd_508 rfl rfl (fun _ => rfl) rfl (by decide) (Nat.le_of_ble_eq_true rfl) (Nat.le_of_ble_eq_true rfl) rfl fp_MO_24 rfl (Nat.le_of_ble_eq_true rfl) (fun a4 h4 hI => ?_)
  have hI : jj_OI h h4 x 9 [.ref a0, .ref a1, .ref a2, .ref a3, .ref a4, .null, .null, .null, .null, .null, .null, .null, .null, .null, .null, .int 0, .int 0, .int 0, .null, .int 0, .null, .null, .int 0, .null, .null, .null, .null, .int 0, .int 0] _ := hI
  refine jj_go C 2 rfl ?_
  refine jj_arrF C hI 1 (N := 6) (a0 := (6, .inl (fun _ => 0))) rfl wd_508 rfl rfl (fun _ => rfl) rfl (by decide) (Nat.le_of_ble_eq_true rfl) (Nat.le_of_ble_eq_true rfl) rfl fp_MO_27 rfl (Nat.le_of_ble_eq_true rfl) (fun a5 h5 hI => ?_)
  have hI : jj_OI h h5 x 9 [.ref a0, .ref a1, .ref a2, .ref a3, .ref a4, .ref a5, .null, .null, .null, .null, .null, .null, .null, .null, .null, .int 0, .int 0, .int 0, .null, .int 0, .null, .null, .int 0, .null, .null, .null, .null, .int 0, .int 0] _ := hI
  refine jj_go C 2 rfl ?_
  refine jj_arrF C hI 0 (N := 6) (a0 := (6, .inl (fun _ => 0))) rfl wd_103 rfl rfl (fun _ => rfl) rfl (by decide) (Nat.le_of_ble_eq_true rfl) (Nat.le_of_ble_eq_true rfl) rfl fp_MO_30 rfl (Nat.le_of_ble_eq_true rfl) (fun a6 h6 hI => ?_)
  have hI : jj_OI h h6 x 9 [.ref a0, .ref a1, .ref a2, .ref a3, .ref a4, .ref a5, .ref a6, .null, .null, .null, .null, .null, .null, .null, .null, .int 0, .int 0, .int 0, .null, .int 0, .null, .null, .int 0, .null, .null, .null, .null, .int 0, .int 0] _ := hI
  refine jj_go C 2 rfl ?_
  refine jj_arrF C hI 0 (N := 6) (a0 := (6, .inl (fun _ => 0))) rfl wd_103 rfl rfl (fun _ => rfl) rfl (by decide) (Nat.le_of_ble_eq_true rfl) (Nat.le_of_ble_eq_true rfl) rfl fp_MO_33 rfl (Nat.le_of_ble_eq_true rfl) (fun a7 h7 hI => ?_)
  have hI : jj_OI h h7 x 9 [.ref a0, .ref a1, .ref a2, .ref a3, .ref a4, .ref a5, .ref a6, .ref a7, .null, .null, .null, .null, .null, .null, .null, .int 0, .int 0, .int 0, .null, .int 0, .null, .null, .int 0, .null, .null, .null, .null, .int 0, .int 0] _ := hI
  refine jj_go C 2 rfl ?_
  refine jj_arrF C hI 0 (N := 6) (a0 := (6, .inl (fun _ => 0))) rfl wd_103 rfl rfl (fun _ => rfl) rfl (by decide) (Nat.le_of_ble_eq_true rfl) (Nat.le_of_ble_eq_true rfl) rfl fp_MO_36 rfl (Nat.le_of_ble_eq_true rfl) (fun a8 h8 hI => ?_)
  have hI : jj_OI h h8 x 9 [.ref a0, .ref a1, .ref a2, .ref a3, .ref a4, .ref a5, .ref a6, .ref a7, .ref a8, .null, .null, .null, .null, .null, .null, .int 0, .int 0, .int 0, .null, .int 0, .null, .null, .int 0, .null, .null, .null, .null, .int 0, .int 0] _ := hI
  refine jj_go C 2 rfl ?_
  refine jj_arrF C hI 0 (N := 6) (a0 := (6, .inl (fun _ => 0))) rfl wd_103 rfl rfl (fun _ => rfl) rfl (by decide) (Nat.le_of_ble_eq_true rfl) (Nat.le_of_ble_eq_true rfl) rfl fp_MO_39 rfl (Nat.le_of_ble_eq_true rfl) (fun a9 h9 hI => ?_)
  have hI : jj_OI h h9 x 9 [.ref a0, .ref a1, .ref a2, .ref a3, .ref a4, .ref a5, .ref a6, .ref a7, .ref a8, .ref a9, .null, .null, .null, .null, .null, .int 0, .int 0, .int 0, .null, .int 0, .null, .null, .int 0, .null, .null, .null, .null, .int 0, .int 0] _ := hI
  refine jj_go C 2 rfl ?_
  refine jj_arrF C hI 3 (N := 6) (a0 := (6, .inr (.inl (fun _ => 0)))) rfl wd_961 rfl rfl (fun _ => rfl) rfl (by decide) (Nat.le_of_ble_eq_true rfl) (Nat.le_of_ble_eq_true rfl) rfl fp_MO_42 rfl (Nat.le_of_ble_eq_true rfl) (fun a10 h10 hI => ?_)
  have hI : jj_OI h h10 x 9 [.ref a0, .ref a1, .ref a2, .ref a3, .ref a4, .ref a5, .ref a6, .ref a7, .ref a8, .ref a9, .ref a10, .null, .null, .null, .null, .int 0, .int 0, .int 0, .null, .int 0, .null, .null, .int 0, .null, .null, .null, .null, .int 0, .int 0] _ := hI
  refine jj_go C 2 rfl ?_
  refine jj_arrF C hI 1 (N := 6) (a0 := (6, .inl (fun _ => 0))) rfl wd_508 rfl rfl (fun _ => rfl) rfl (by decide) (Nat.le_of_ble_eq_true rfl) (Nat.le_of_ble_eq_true rfl) rfl fp_MO_46 rfl (Nat.le_of_ble_eq_true rfl) (fun a11 h11 hI => ?_)
  have hI : jj_OI h h11 x 9 [.ref a0, .ref a1, .ref a2, .ref a3, .ref a4, .ref a5, .ref a6, .ref a7, .ref a8, .ref a9, .ref a10, .ref a11, .null, .null, .null, .int 0, .int 0, .int 0, .null, .int 0, .null, .null, .int 0, .null, .null, .null, .null, .int 0, .int 0] _ := hI
  refine jj_go C 2 rfl ?_
  refine jj_arrF C hI 1 (N := 6) (a0 := (6, .inl (fun _ => 0))) rfl wd_508 rfl rfl (fun _ => rfl) rfl (by decide) (Nat.le_of_ble_eq_true rfl) (Nat.le_of_ble_eq_true rfl) rfl fp_MO_49 rfl (Nat.le_of_ble_eq_true rfl) (fun a12 h12 hI => ?_)
  have hI : jj_OI h h12 x 9 [.ref a0, .ref a1, .ref a2, .ref a3, .ref a4, .ref a5, .ref a6, .ref a7, .ref a8, .ref a9, .ref a10, .ref a11, .ref a12, .null, .null, .int 0, .int 0, .int 0, .null, .int 0, .null, .null, .int 0, .null, .null, .null, .null, .int 0, .int 0] _ := hI
  refine jj_go C 2 rfl ?_
  refine jj_arrF C hI 0 (N := 6) (a0 := (6, .inl (fun _ => 0))) rfl wd_103 rfl rfl (fun _ => rfl) rfl (by decide) (Nat.le_of_ble_eq_true rfl) (Nat.le_of_ble_eq_true rfl) rfl fp_MO_52 rfl (Nat.le_of_ble_eq_true rfl) (fun a13 h13 hI => ?_)
  have hI : jj_OI h h13 x 9 [.ref a0, .ref a1, .ref a2, .ref a3, .ref a4, .ref a5, .ref a6, .ref a7, .ref a8, .ref a9, .ref a10, .ref a11, .ref a12, .ref a13, .null, .int 0, .int 0, .int 0, .null, .int 0, .null, .null, .int 0, .null, .null, .null, .null, .int 0, .int 0] _ := hI
  refine jj_go C 2 rfl ?_
  refine jj_arrF C hI 1 (N := 6) (a0 := (6, .inl (fun _ => 0))) rfl wd_508 rfl rfl (fun _ => rfl) rfl (by decide) (Nat.le_of_ble_eq_true rfl) (Nat.le_of_ble_eq_true rfl) rfl fp_MO_55 rfl (Nat.le_of_ble_eq_true rfl) (fun a14 h14 hI => ?_)
  have hI : jj_OI h h14 x 9 [.ref a0, .ref a1, .ref a2, .ref a3, .ref a4, .ref a5, .ref a6, .ref a7, .ref a8, .ref a9, .ref a10, .ref a11, .ref a12, .ref a13, .ref a14, .int 0, .int 0, .int 0, .null, .int 0, .null, .null, .int 0, .null, .null, .null, .null, .int 0, .int 0] _ := hI
  refine jj_go C 2 rfl ?_
  refine jj_numF C hI rfl fl_MO_58 rfl rfl (Nat.le_of_ble_eq_true rfl) (fun h15 hI => ?_)
  have hI : jj_OI h h15 x 9 [.ref a0, .ref a1, .ref a2, .ref a3, .ref a4, .ref a5, .ref a6, .ref a7, .ref a8, .ref a9, .ref a10, .ref a11, .ref a12, .ref a13, .ref a14, .int 0, .int 63, .int 0, .null, .int 0, .null, .null, .int 0, .null, .null, .null, .null, .int 0, .int 0] _ := hI
  refine jj_go C 2 rfl ?_
  refine jj_arrF C hI 0 (N := 64) (a0 := (64, .inl (fun _ => 0))) rfl wd_103 rfl rfl (fun _ => rfl) rfl (by decide) (Nat.le_of_ble_eq_true rfl) (Nat.le_of_ble_eq_true rfl) rfl fp_MO_62 rfl (Nat.le_of_ble_eq_true rfl) (fun a18 h16 hI => ?_)
  have hI : jj_OI h h16 x 9 [.ref a0, .ref a1, .ref a2, .ref a3, .ref a4, .ref a5, .ref a6, .ref a7, .ref a8, .ref a9, .ref a10, .ref a11, .ref a12, .ref a13, .ref a14, .int 0, .int 63, .int 0, .ref a18, .int 0, .null, .null, .int 0, .null, .null, .null, .null, .int 0, .int 0] _ := hI
  refine jj_go C 2 rfl ?_
  refine jj_arrF C hI 0 (N := 12) (a0 := (12, .inl (fun _ => 0))) rfl wd_103 rfl rfl (fun _ => rfl) rfl (by decide) (Nat.le_of_ble_eq_true rfl) (Nat.le_of_ble_eq_true rfl) rfl fp_MO_65 rfl (Nat.le_of_ble_eq_true rfl) (fun a20 h17 hI => ?_)
  have hI : jj_OI h h17 x 9 [.ref a0, .ref a1, .ref a2, .ref a3, .ref a4, .ref a5, .ref a6, .ref a7, .ref a8, .ref a9, .ref a10, .ref a11, .ref a12, .ref a13, .ref a14, .int 0, .int 63, .int 0, .ref a18, .int 0, .ref a20, .null, .int 0, .null, .null, .null, .null, .int 0, .int 0] _ := hI
  refine jj_go C 2 rfl ?_
  refine jj_arrF C hI 0 (N := 26) (a0 := (26, .inl (fun _ => 0))) rfl wd_103 rfl rfl (fun _ => rfl) rfl (by decide) (Nat.le_of_ble_eq_true rfl) (Nat.le_of_ble_eq_true rfl) rfl fp_MO_68 rfl (Nat.le_of_ble_eq_true rfl) (fun a21 h18 hI => ?_)
  have hI : jj_OI h h18 x 9 [.ref a0, .ref a1, .ref a2, .ref a3, .ref a4, .ref a5, .ref a6, .ref a7, .ref a8, .ref a9, .ref a10, .ref a11, .ref a12, .ref a13, .ref a14, .int 0, .int 63, .int 0, .ref a18, .int 0, .ref a20, .ref a21, .int 0, .null, .null, .null, .null, .int 0, .int 0] _ := hI
  refine jj_go C 2 rfl ?_
  refine jj_arrF C hI 1 (N := 12) (a0 := (12, .inl (fun _ => 0))) rfl wd_508 rfl rfl (fun _ => rfl) rfl (by decide) (Nat.le_of_ble_eq_true rfl) (Nat.le_of_ble_eq_true rfl) rfl fp_MO_71 rfl (Nat.le_of_ble_eq_true rfl) (fun a23 h19 hI => ?_)
  have hI : jj_OI h h19 x 9 [.ref a0, .ref a1, .ref a2, .ref a3, .ref a4, .ref a5, .ref a6, .ref a7, .ref a8, .ref a9, .ref a10, .ref a11, .ref a12, .ref a13, .ref a14, .int 0, .int 63, .int 0, .ref a18, .int 0, .ref a20, .ref a21, .int 0, .ref a23, .null, .null, .null, .int 0, .int 0] _ := hI
  refine jj_go C 2 rfl ?_
  refine jj_arrF C hI 1 (N := 12) (a0 := (12, .inl (fun _ => 0))) rfl wd_508 rfl rfl (fun _ => rfl) rfl (by decide) (Nat.le_of_ble_eq_true rfl) (Nat.le_of_ble_eq_true rfl) rfl fp_MO_74 rfl (Nat.le_of_ble_eq_true rfl) (fun a24 h20 hI => ?_)
  have hI : jj_OI h h20 x 9 [.ref a0, .ref a1, .ref a2, .ref a3, .ref a4, .ref a5, .ref a6, .ref a7, .ref a8, .ref a9, .ref a10, .ref a11, .ref a12, .ref a13, .ref a14, .int 0, .int 63, .int 0, .ref a18, .int 0, .ref a20, .ref a21, .int 0, .ref a23, .ref a24, .null, .null, .int 0, .int 0] _ := hI
  refine jj_go C 2 rfl ?_
  refine jj_arrF C hI 1 (N := 12) (a0 := (12, .inl (fun _ => 0))) rfl wd_508 rfl rfl (fun _ => rfl) rfl (by decide) (Nat.le_of_ble_eq_true rfl) (Nat.le_of_ble_eq_true rfl) rfl fp_MO_77 rfl (Nat.le_of_ble_eq_true rfl) (fun a25 h21 hI => ?_)
  have hI : jj_OI h h21 x 9 [.ref a0, .ref a1, .ref a2, .ref a3, .ref a4, .ref a5, .ref a6, .ref a7, .ref a8, .ref a9, .ref a10, .ref a11, .ref a12, .ref a13, .ref a14, .int 0, .int 63, .int 0, .ref a18, .int 0, .ref a20, .ref a21, .int 0, .ref a23, .ref a24, .ref a25, .null, .int 0, .int 0] _ := hI
  refine jj_go C 2 rfl ?_
  refine jj_arrF C hI 1 (N := 12) (a0 := (12, .inl (fun _ => 0))) rfl wd_508 rfl rfl (fun _ => rfl) rfl (by decide) (Nat.le_of_ble_eq_true rfl) (Nat.le_of_ble_eq_true rfl) rfl fp_MO_80 rfl (Nat.le_of_ble_eq_true rfl) (fun a26 h22 hI => ?_)
  have hI : jj_OI h h22 x 9 [.ref a0, .ref a1, .ref a2, .ref a3, .ref a4, .ref a5, .ref a6, .ref a7, .ref a8, .ref a9, .ref a10, .ref a11, .ref a12, .ref a13, .ref a14, .int 0, .int 63, .int 0, .ref a18, .int 0, .ref a20, .ref a21, .int 0, .ref a23, .ref a24, .ref a25, .ref a26, .int 0, .int 0] _ := hI
  exact jj_vret C rfl rfl (Nat.le_of_ble_eq_true rfl) (Nat.le_of_ble_eq_true rfl) ⟨rfl, fun k => [a0, a1, a2, a3, a4, a5, a6, a7, a8, a9, a10, a11, a12, a13, a14, 0, 0, 0, a18, 0, a20, a21, 0, a23, a24, a25, a26].getD k 0, hI⟩
