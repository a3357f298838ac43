/-! The class: the makers of Bean, Query, Counter, Gauge -/
section CM
variable {l : Launch} {D : va_G} {aC : Nat → ClassId} {base : Nat} {h : jjHp} {c0 nm : Nat} {att a b : Int32}
theorem be_init {x pt : Nat} (ho : h x = some (.inr (1, [.null, .null, .null]))) : jj_Ct l D aC base yn_BE_init yb_BE_init 2 none 1 2 10 [.ref x, .ref pt] h (fun r h' => r = none ∧ ∃ va pr, jj_OI h h' x 1 [.ref pt, .ref va, .ref pr] [(2, pr, .inl (aC 1, 5, .inl (fun _ => 0))), (1, va, .inl (aC 0, 5, .inl (fun _ => 0)))]) := by
  refine jj_start (tb := tb_BE_init) (by decide) tg_BE_init (Nat.le_of_ble_eq_true rfl) ?_
  intro p e s m args below meth cc C
  refine jj_go C 1 rfl ?_
  refine jj_objI C rfl wd_492 wd_29 wd_30 ⟨(Nat.le_of_ble_eq_true rfl), (Nat.le_of_ble_eq_true rfl)⟩ (Nat.zero_le _) ?_
  have hI := jj_OI.start ho
  refine jj_go C 2 rfl ?_
  refine jj_arrF C hI 0 (N := 5) (a0 := (5, .inl (fun _ => 0))) rfl wd_103 rfl rfl (fun _ => rfl) rfl (by decide) (Nat.le_of_ble_eq_true rfl) (Nat.le_of_ble_eq_true rfl) rfl fp_BE_9 rfl (Nat.le_of_ble_eq_true rfl) (fun va h1 hI => ?_)
  refine jj_go C 2 rfl ?_
  refine jj_arrF C hI 1 (N := 5) (a0 := (5, .inl (fun _ => 0))) rfl wd_508 rfl rfl (fun _ => rfl) rfl (by decide) (Nat.le_of_ble_eq_true rfl) (Nat.le_of_ble_eq_true rfl) rfl fp_BE_15 rfl (Nat.le_of_ble_eq_true rfl) (fun pr h2 hI => ?_)
  refine jj_go C 2 rfl ?_
  refine jj_putF C rfl fp_BE_19 rfl hI.1 rfl rfl (Nat.le_of_ble_eq_true rfl) ?_
  exact jj_vret C rfl rfl (Nat.le_of_ble_eq_true rfl) (Nat.le_of_ble_eq_true rfl) ⟨rfl, va, pr, hI.put⟩
theorem qu_init {x tx : Nat} (ho : h x = some (.inr (4, [.null]))) : jj_Ct l D aC base yn_QU_init yb_QU_init 2 none 1 0 0 [.ref x, .ref tx] h (fun r h' => r = none ∧ h' x = some (.inr (4, [.ref tx])) ∧ jj_fr [x] h h') := by
  refine jj_start (tb := tb_QU_init) (by decide) tg_QU_init (Nat.le_of_ble_eq_true rfl) ?_
  intro p e s m args below meth cc C
  refine jj_go C 1 rfl ?_
  refine jj_objI C rfl wd_696 wd_29 wd_30 ⟨(Nat.le_of_ble_eq_true rfl), (Nat.le_of_ble_eq_true rfl)⟩ (Nat.zero_le _) ?_
  refine jj_go C 2 rfl ?_
  refine jj_putF C rfl fp_QU_7 rfl ho rfl rfl (Nat.le_of_ble_eq_true rfl) ?_
  exact jj_vret C rfl rfl (Nat.le_of_ble_eq_true rfl) (Nat.le_of_ble_eq_true rfl) ⟨rfl, jj_up_s, jj_fr.rf.up (Or.inl List.mem_cons_self)⟩
theorem mn_initC (ho : h c0 = some (.inr (7, [.int 0, .int 0, .long 0, .int 0, .int 0, .int 0, .null, .int 0, .int 0]))) : jj_Ct l D aC base yn_MN_init yb_MN_init 3 none 1 0 0 [.ref c0, .ref nm, .int att] h (fun r h' => r = none ∧ h' c0 = some (.inr (7, ct_fs 0 0 0 0 0 0 nm att 0)) ∧ jj_fr [c0] h h') := by
  refine jj_start (tb := tb_MN_init) (by decide) tg_MN_init (Nat.le_of_ble_eq_true rfl) ?_
  intro p e s m args below meth cc C
  refine jj_go C 1 rfl ?_
  refine jj_objI C rfl wd_754 wd_29 wd_30 ⟨(Nat.le_of_ble_eq_true rfl), (Nat.le_of_ble_eq_true rfl)⟩ (Nat.zero_le _) ?_
  have hf0 : jj_fr [c0] h h := jj_fr.rf
  refine jj_go C 2 rfl ?_
  refine jj_putf C rfl fl_MN_7_CT ho rfl rfl (Nat.le_of_ble_eq_true rfl) ?_
  have hf1 := hf0.up (a := c0) (x := .inr (7, [.int 0, .int 0, .long 0, .int 0, .int 0, .int 0, .null, .int 0, .int 0])) (Or.inl List.mem_cons_self)
  have ho1 : (jj_up h c0 (.inr (7, [.int 0, .int 0, .long 0, .int 0, .int 0, .int 0, .null, .int 0, .int 0]))) c0 = _ := jj_up_s
  refine jj_eq (h' := jj_up h c0 (.inr (7, [.int 0, .int 0, .long 0, .int 0, .int 0, .int 0, .null, .int 0, .int 0]))) rfl rfl rfl rfl ?_
  generalize (jj_up h c0 (.inr (7, [.int 0, .int 0, .long 0, .int 0, .int 0, .int 0, .null, .int 0, .int 0]))) = h1 at ho1 hf1 ⊢
  refine jj_go C 2 rfl ?_
  refine jj_putF C rfl fp_MN_13_CT rfl ho1 rfl rfl (Nat.le_of_ble_eq_true rfl) ?_
  have hf2 := hf1.up (a := c0) (x := .inr (7, ct_fs 0 0 0 0 0 0 nm 0 0)) (Or.inl List.mem_cons_self)
  have ho2 : (jj_up h1 c0 (.inr (7, ct_fs 0 0 0 0 0 0 nm 0 0))) c0 = _ := jj_up_s
  refine jj_eq (h' := jj_up h1 c0 (.inr (7, ct_fs 0 0 0 0 0 0 nm 0 0))) rfl rfl rfl rfl ?_
  generalize (jj_up h1 c0 (.inr (7, ct_fs 0 0 0 0 0 0 nm 0 0))) = h2 at ho2 hf2 ⊢
  refine jj_go C 2 rfl ?_
  refine jj_putF C rfl fp_MN_17_CT rfl ho2 rfl rfl (Nat.le_of_ble_eq_true rfl) ?_
  exact jj_vret C rfl rfl (Nat.le_of_ble_eq_true rfl) (Nat.le_of_ble_eq_true rfl) ⟨rfl, jj_up_s, hf2.up (Or.inl List.mem_cons_self)⟩
theorem mn_initG (ho : h c0 = some (.inr (8, [.int 0, .int 0, .int 0, .null, .int 0, .int 0]))) : jj_Ct l D aC base yn_MN_init yb_MN_init 3 none 1 0 0 [.ref c0, .ref nm, .int att] h (fun r h' => r = none ∧ h' c0 = some (.inr (8, ga_fs 0 0 0 nm att 0)) ∧ jj_fr [c0] h h') := by
  refine jj_start (tb := tb_MN_init) (by decide) tg_MN_init (Nat.le_of_ble_eq_true rfl) ?_
  intro p e s m args below meth cc C
  refine jj_go C 1 rfl ?_
  refine jj_objI C rfl wd_754 wd_29 wd_30 ⟨(Nat.le_of_ble_eq_true rfl), (Nat.le_of_ble_eq_true rfl)⟩ (Nat.zero_le _) ?_
  have hf0 : jj_fr [c0] h h := jj_fr.rf
  refine jj_go C 2 rfl ?_
  refine jj_putf C rfl fl_MN_7_GA ho rfl rfl (Nat.le_of_ble_eq_true rfl) ?_
  have hf1 := hf0.up (a := c0) (x := .inr (8, [.int 0, .int 0, .int 0, .null, .int 0, .int 0])) (Or.inl List.mem_cons_self)
  have ho1 : (jj_up h c0 (.inr (8, [.int 0, .int 0, .int 0, .null, .int 0, .int 0]))) c0 = _ := jj_up_s
  refine jj_eq (h' := jj_up h c0 (.inr (8, [.int 0, .int 0, .int 0, .null, .int 0, .int 0]))) rfl rfl rfl rfl ?_
  generalize (jj_up h c0 (.inr (8, [.int 0, .int 0, .int 0, .null, .int 0, .int 0]))) = h1 at ho1 hf1 ⊢
  refine jj_go C 2 rfl ?_
  refine jj_putF C rfl fp_MN_13_GA rfl ho1 rfl rfl (Nat.le_of_ble_eq_true rfl) ?_
  have hf2 := hf1.up (a := c0) (x := .inr (8, ga_fs 0 0 0 nm 0 0)) (Or.inl List.mem_cons_self)
  have ho2 : (jj_up h1 c0 (.inr (8, ga_fs 0 0 0 nm 0 0))) c0 = _ := jj_up_s
  refine jj_eq (h' := jj_up h1 c0 (.inr (8, ga_fs 0 0 0 nm 0 0))) rfl rfl rfl rfl ?_
  generalize (jj_up h1 c0 (.inr (8, ga_fs 0 0 0 nm 0 0))) = h2 at ho2 hf2 ⊢
  refine jj_go C 2 rfl ?_
  refine jj_putF C rfl fp_MN_17_GA rfl ho2 rfl rfl (Nat.le_of_ble_eq_true rfl) ?_
  exact jj_vret C rfl rfl (Nat.le_of_ble_eq_true rfl) (Nat.le_of_ble_eq_true rfl) ⟨rfl, jj_up_s, hf2.up (Or.inl List.mem_cons_self)⟩
theorem ct_init (ho : h c0 = some (.inr (7, [.int 0, .int 0, .long 0, .int 0, .int 0, .int 0, .null, .int 0, .int 0]))) : jj_Ct l D aC base yn_CT_init yb_CT_init 5 none 2 0 0 [.ref c0, .ref nm, .int att, .int a, .int b] h (fun r h' => r = none ∧ h' c0 = some (.inr (7, ct_fs a b a.toInt64 1 0 0 nm att 0)) ∧ jj_fr [c0] h h') := by
  refine jj_start (tb := tb_CT_init) (by decide) tg_CT_init (Nat.le_of_ble_eq_true rfl) ?_
  intro p e s m args below meth cc C
  refine jj_go C 3 rfl ?_
  refine jj_callI C rfl ml_CT_3 wd_752 rfl (mn_initC (nm := nm) (att := att) ho) (rest := []) rfl rfl ⟨(Nat.le_of_ble_eq_true rfl), (Nat.le_of_ble_eq_true rfl)⟩ (Nat.le_of_ble_eq_true rfl) (Nat.le_of_ble_eq_true rfl) (Nat.le_of_ble_eq_true rfl) ?_
  rintro r h1 ⟨rfl, ho1, hf1⟩
  refine jj_go C 2 rfl ?_
  refine jj_putf C rfl fl_CT_9 ho1 rfl rfl (Nat.le_of_ble_eq_true rfl) ?_
  have hf2 := hf1.up (a := c0) (x := .inr (7, ct_fs 0 0 0 1 0 0 nm att 0)) (Or.inl List.mem_cons_self)
  have ho2 : (jj_up h1 c0 (.inr (7, ct_fs 0 0 0 1 0 0 nm att 0))) c0 = _ := jj_up_s
  refine jj_eq (h' := jj_up h1 c0 (.inr (7, ct_fs 0 0 0 1 0 0 nm att 0))) rfl rfl rfl rfl ?_
  generalize (jj_up h1 c0 (.inr (7, ct_fs 0 0 0 1 0 0 nm att 0))) = h2 at ho2 hf2 ⊢
  refine jj_go C 2 rfl ?_
  refine jj_putf C rfl fl_CT_15 ho2 rfl rfl (Nat.le_of_ble_eq_true rfl) ?_
  have hf3 := hf2.up (a := c0) (x := .inr (7, ct_fs 0 0 0 1 0 0 nm att 0)) (Or.inl List.mem_cons_self)
  have ho3 : (jj_up h2 c0 (.inr (7, ct_fs 0 0 0 1 0 0 nm att 0))) c0 = _ := jj_up_s
  refine jj_eq (h' := jj_up h2 c0 (.inr (7, ct_fs 0 0 0 1 0 0 nm att 0))) rfl rfl rfl rfl ?_
  generalize (jj_up h2 c0 (.inr (7, ct_fs 0 0 0 1 0 0 nm att 0))) = h3 at ho3 hf3 ⊢
  refine jj_go C 2 rfl ?_
  refine jj_putf C rfl fl_CT_18 ho3 rfl rfl (Nat.le_of_ble_eq_true rfl) ?_
  have hf4 := hf3.up (a := c0) (x := .inr (7, ct_fs 0 0 0 1 0 0 nm att 0)) (Or.inl List.mem_cons_self)
  have ho4 : (jj_up h3 c0 (.inr (7, ct_fs 0 0 0 1 0 0 nm att 0))) c0 = _ := jj_up_s
  refine jj_eq (h' := jj_up h3 c0 (.inr (7, ct_fs 0 0 0 1 0 0 nm att 0))) rfl rfl rfl rfl ?_
  generalize (jj_up h3 c0 (.inr (7, ct_fs 0 0 0 1 0 0 nm att 0))) = h4 at ho4 hf4 ⊢
  refine jj_go C 2 rfl ?_
  refine jj_putF C rfl fp_CT_22 rfl ho4 rfl rfl (Nat.le_of_ble_eq_true rfl) ?_
  have hf5 := hf4.up (a := c0) (x := .inr (7, ct_fs a 0 0 1 0 0 nm att 0)) (Or.inl List.mem_cons_self)
  have ho5 : (jj_up h4 c0 (.inr (7, ct_fs a 0 0 1 0 0 nm att 0))) c0 = _ := jj_up_s
  refine jj_eq (h' := jj_up h4 c0 (.inr (7, ct_fs a 0 0 1 0 0 nm att 0))) rfl rfl rfl rfl ?_
  generalize (jj_up h4 c0 (.inr (7, ct_fs a 0 0 1 0 0 nm att 0))) = h5 at ho5 hf5 ⊢
  refine jj_go C 2 rfl ?_
  refine jj_putF C rfl fp_CT_25 rfl ho5 rfl rfl (Nat.le_of_ble_eq_true rfl) ?_
  have hf6 := hf5.up (a := c0) (x := .inr (7, ct_fs a b 0 1 0 0 nm att 0)) (Or.inl List.mem_cons_self)
  have ho6 : (jj_up h5 c0 (.inr (7, ct_fs a b 0 1 0 0 nm att 0))) c0 = _ := jj_up_s
  refine jj_eq (h' := jj_up h5 c0 (.inr (7, ct_fs a b 0 1 0 0 nm att 0))) rfl rfl rfl rfl ?_
  generalize (jj_up h5 c0 (.inr (7, ct_fs a b 0 1 0 0 nm att 0))) = h6 at ho6 hf6 ⊢
  refine jj_go C 3 rfl ?_
  refine jj_putf C rfl fl_CT_28 ho6 rfl rfl (Nat.le_of_ble_eq_true rfl) ?_
  exact jj_vret C rfl rfl (Nat.le_of_ble_eq_true rfl) (Nat.le_of_ble_eq_true rfl) ⟨rfl, jj_up_s, hf6.up (Or.inl List.mem_cons_self)⟩
theorem ga_init (ho : h c0 = some (.inr (8, [.int 0, .int 0, .int 0, .null, .int 0, .int 0]))) : jj_Ct l D aC base yn_GA_init yb_GA_init 5 none 2 0 0 [.ref c0, .ref nm, .int att, .int a, .int b] h (fun r h' => r = none ∧ h' c0 = some (.inr (8, ga_fs a b 0 nm att 0)) ∧ jj_fr [c0] h h') := by
  refine jj_start (tb := tb_GA_init) (by decide) tg_GA_init (Nat.le_of_ble_eq_true rfl) ?_
  intro p e s m args below meth cc C
  refine jj_go C 3 rfl ?_
  refine jj_callI C rfl ml_GA_3 wd_752 rfl (mn_initG (nm := nm) (att := att) ho) (rest := []) rfl rfl ⟨(Nat.le_of_ble_eq_true rfl), (Nat.le_of_ble_eq_true rfl)⟩ (Nat.le_of_ble_eq_true rfl) (Nat.le_of_ble_eq_true rfl) (Nat.le_of_ble_eq_true rfl) ?_
  rintro r h1 ⟨rfl, ho1, hf1⟩
  refine jj_go C 2 rfl ?_
  refine jj_putf C rfl fl_GA_9 ho1 rfl rfl (Nat.le_of_ble_eq_true rfl) ?_
  have hf2 := hf1.up (a := c0) (x := .inr (8, ga_fs 0 0 0 nm att 0)) (Or.inl List.mem_cons_self)
  have ho2 : (jj_up h1 c0 (.inr (8, ga_fs 0 0 0 nm att 0))) c0 = _ := jj_up_s
  refine jj_eq (h' := jj_up h1 c0 (.inr (8, ga_fs 0 0 0 nm att 0))) rfl rfl rfl rfl ?_
  generalize (jj_up h1 c0 (.inr (8, ga_fs 0 0 0 nm att 0))) = h2 at ho2 hf2 ⊢
  refine jj_go C 2 rfl ?_
  refine jj_putF C rfl fp_GA_15 rfl ho2 rfl rfl (Nat.le_of_ble_eq_true rfl) ?_
  have hf3 := hf2.up (a := c0) (x := .inr (8, ga_fs a 0 0 nm att 0)) (Or.inl List.mem_cons_self)
  have ho3 : (jj_up h2 c0 (.inr (8, ga_fs a 0 0 nm att 0))) c0 = _ := jj_up_s
  refine jj_eq (h' := jj_up h2 c0 (.inr (8, ga_fs a 0 0 nm att 0))) rfl rfl rfl rfl ?_
  generalize (jj_up h2 c0 (.inr (8, ga_fs a 0 0 nm att 0))) = h3 at ho3 hf3 ⊢
  refine jj_go C 2 rfl ?_
  refine jj_putF C rfl fp_GA_18 rfl ho3 rfl rfl (Nat.le_of_ble_eq_true rfl) ?_
  exact jj_vret C rfl rfl (Nat.le_of_ble_eq_true rfl) (Nat.le_of_ble_eq_true rfl) ⟨rfl, jj_up_s, hf3.up (Or.inl List.mem_cons_self)⟩
end CM
