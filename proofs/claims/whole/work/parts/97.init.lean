/-! The class's maker: a new server -/
theorem jj_OI.many {h0 h h1 : jjHp} {x ci k : Nat} {v : Value} {fs : List Value} {L M : List (Nat × Nat × va_E)} (hI : jj_OI h0 h x ci fs L) (hf : ∀ b e, h b = some e → h1 b = some e) (hM : ∀ q ∈ M, h1 q.2.1 = some q.2.2 ∧ h q.2.1 = none) (hN : (M.map (fun q => q.2.1)).Nodup) : jj_OI h0 (jj_up h1 x (.inr (ci, fs.set k v))) x ci (fs.set k v) (M ++ L) := by
  obtain ⟨i1, i2, i3, i4, i5⟩ := hI
  refine ⟨jj_up_s, fun q hq => ?_, ?_, fun b e hb h0b => (jj_up_n hb).trans (hf _ _ (i4 b e hb h0b)), i5⟩
  · rcases List.mem_append.mp hq with hq | hq
    · obtain ⟨m1, m2⟩ := hM q hq
      have hqx : q.2.1 ≠ x := fun z => by rw [z, i1] at m2; cases m2
      refine ⟨(jj_up_n hqx).trans m1, ?_⟩
      cases hv : h0 q.2.1 with
      | none => rfl
      | some e =>
        have := i4 _ e hqx hv
        rw [m2] at this
        cases this
    · obtain ⟨g1, g2⟩ := i2 q hq
      exact ⟨(jj_up_n (fun z : q.2.1 = x => i5 (by rw [← z]; exact g2))).trans (hf _ _ g1), g2⟩
  · rw [List.map_append]
    refine List.nodup_append.mpr ⟨hN, i3, fun a ha b hb hab => ?_⟩
    obtain ⟨q, hq, hqa⟩ := List.mem_map.mp ha
    obtain ⟨q', hq', hqb⟩ := List.mem_map.mp hb
    have m2 := (hM q hq).2
    have g1 := (i2 q' hq').1
    rw [hqa, hab, ← hqb, g1] at m2
    cases m2
abbrev ix_BS_L (aC : Nat → ClassId) (ca : Nat → Nat) (b0 : Nat) : List (Nat × Nat × va_E) := (6, ca 11, .inl (aC 0, 12, .inl (fun _ => 0))) :: (((0, ca 6, .inr (2, ix_LG_fs (fun w => ca (7 + w)))) :: ix_LG_L aC (fun w => ca (7 + w))) ++ [(4, ca 5, rfA (aC 7) 6 (fun _ => none)), (2, ca 4, rfA (aC 6) 6 (fun _ => none)), (1, ca 3, rfA (aC 5) 12 (fun _ => none)), (0, ca 1, kx_sb b0 0 0), (0, b0, kx_ba aC 16 (fun _ => 0))])
section PN
variable {l : Launch} {D : va_G} {aC : Nat → ClassId} {base : Nat} {h : jjHp}
theorem bs_init {x : Nat} (ho : h x = some (.inr (0, [.null, .null, .null, .int 0, .null, .null, .null, .int 0, .null]))) : jj_Ct l D aC base yn_BS_init yb_BS_init 1 none 3 11 128 [.ref x] h (fun r h' => r = none ∧ ∃ (ca : Nat → Nat) (b0 : Nat), ca 0 = x ∧ jj_OI h h' x 0 (bs_fs ca 0 0 (aC 100)) (ix_BS_L aC ca b0)) := by
  refine jj_start (tb := tb_BS_init) (by decide) tg_BS_init (Nat.le_of_ble_eq_true rfl) ?_
  intro p e s m args below meth cc C
  refine jj_go C 1 rfl ?_
  refine jj_objI C rfl wd_28 wd_29 wd_30 ⟨(Nat.le_of_ble_eq_true rfl), (Nat.le_of_ble_eq_true rfl)⟩ (Nat.zero_le _) ?_
  have hI := jj_OI.start ho
  refine jj_go C 1 rfl ?_
  refine jj_new C rfl nw_BS_7 (Nat.le_of_ble_eq_true rfl) (Nat.le_of_ble_eq_true rfl) (fun sb hsb => ?_)
  refine jj_go C 1 rfl ?_
  refine jj_callI C rfl ml_BS_9 wd_34 rfl (kx_SB_init (a := sb) jj_up_s) (rest := [.ref sb, .ref x]) rfl rfl ⟨(Nat.le_of_ble_eq_true rfl), (Nat.le_of_ble_eq_true rfl)⟩ (Nat.le_of_ble_eq_true rfl) (Nat.le_of_ble_eq_true rfl) (Nat.le_of_ble_eq_true rfl) ?_
  rintro q9 h1 ⟨rfl, b0, hb0, hh1⟩
  have hbs : b0 ≠ sb := fun q => by rw [q, jj_up_s] at hb0; cases hb0
  have hb0' : h b0 = none := by rw [jj_up_n hbs] at hb0; exact hb0
  have f1 : ∀ b e, h b = some e → h1 b = some e := by
    intro b e hb
    rw [hh1, jj_up_n (fun q => by rw [q, hsb] at hb; cases hb), jj_up_n (fun q => by rw [q, hb0'] at hb; cases hb), jj_up_n (fun q => by rw [q, hsb] at hb; cases hb)]
    exact hb
  have hx1 := f1 _ _ ho
  refine jj_putF C rfl fp_BS_10 rfl hx1 rfl rfl (Nat.le_of_ble_eq_true rfl) ?_
  have hI := hI.many (k := 0) (v := .ref sb) (M := [(0, sb, kx_sb b0 0 0), (0, b0, kx_ba aC 16 (fun _ => 0))]) f1 (by
    intro q hq
    rcases List.mem_cons.mp hq with rfl | hq
    · exact ⟨by rw [hh1]; exact jj_up_s, hsb⟩
    · rw [List.mem_singleton.mp hq]
      exact ⟨by rw [hh1]; exact (jj_up_n hbs).trans jj_up_s, hb0'⟩) (by
    show [sb, b0].Nodup
    simp [Ne.symm hbs])
  refine jj_eq (h' := jj_up h1 x (.inr (0, [.ref sb, .null, .null, .int 0, .null, .null, .null, .int 0, .null]))) rfl rfl rfl rfl ?_
  have hI : jj_OI h (jj_up h1 x (.inr (0, [.ref sb, .null, .null, .int 0, .null, .null, .null, .int 0, .null]))) x 0 [.ref sb, .null, .null, .int 0, .null, .null, .null, .int 0, .null] _ := hI
  generalize jj_up h1 x (.inr (0, [.ref sb, .null, .null, .int 0, .null, .null, .null, .int 0, .null])) = g1 at hI ⊢
  refine jj_go C 2 rfl ?_
  refine jj_arrQ C hI 5 (N := 12) rfl wd_64 (by decide) rfl rfl (by decide) (Nat.le_of_ble_eq_true rfl) (Nat.le_of_ble_eq_true rfl) rfl fp_BS_18 rfl (Nat.le_of_ble_eq_true rfl) (fun a3 g2 hI => ?_)
  have hI : jj_OI h g2 x 0 [.ref sb, .ref a3, .null, .int 0, .null, .null, .null, .int 0, .null] _ := hI
  refine jj_go C 2 rfl ?_
  refine jj_arrQ C hI 6 (N := 6) rfl wd_66 (by decide) rfl rfl (by decide) (Nat.le_of_ble_eq_true rfl) (Nat.le_of_ble_eq_true rfl) rfl fp_BS_24 rfl (Nat.le_of_ble_eq_true rfl) (fun a4 g3 hI => ?_)
  have hI : jj_OI h g3 x 0 [.ref sb, .ref a3, .ref a4, .int 0, .null, .null, .null, .int 0, .null] _ := hI
  refine jj_go C 2 rfl ?_
  refine jj_numF C hI rfl fl_BS_28 rfl rfl (Nat.le_of_ble_eq_true rfl) (fun g4 hI => ?_)
  have hI : jj_OI h g4 x 0 [.ref sb, .ref a3, .ref a4, .int 0, .null, .null, .null, .int 0, .null] _ := hI
  refine jj_go C 2 rfl ?_
  refine jj_arrQ C hI 7 (N := 6) rfl wd_68 (by decide) rfl rfl (by decide) (Nat.le_of_ble_eq_true rfl) (Nat.le_of_ble_eq_true rfl) rfl fp_BS_34 rfl (Nat.le_of_ble_eq_true rfl) (fun a5 g5 hI => ?_)
  have hI : jj_OI h g5 x 0 [.ref sb, .ref a3, .ref a4, .int 0, .ref a5, .null, .null, .int 0, .null] _ := hI
  refine jj_go C 1 rfl ?_
  refine jj_new C rfl nw_BS_38 (Nat.le_of_ble_eq_true rfl) (Nat.le_of_ble_eq_true rfl) (fun lg hlg => ?_)
  refine jj_go C 1 rfl ?_
  refine jj_callI C rfl ml_BS_40 wd_73 rfl (ix_LG_init (x := lg) jj_up_s) (rest := [.ref lg, .ref x]) rfl rfl ⟨(Nat.le_of_ble_eq_true rfl), (Nat.le_of_ble_eq_true rfl)⟩ (Nat.le_of_ble_eq_true rfl) (Nat.le_of_ble_eq_true rfl) (Nat.le_of_ble_eq_true rfl) ?_
  rintro q9 g6 ⟨rfl, la, o1, o2, o3, o4, o5⟩
  have f6 : ∀ b e, g5 b = some e → g6 b = some e := fun b e hb => o4 b e (jj_ne hlg hb) (jj_up_f hlg hb)
  refine jj_putF C rfl fp_BS_41 rfl (f6 _ _ hI.1) rfl rfl (Nat.le_of_ble_eq_true rfl) ?_
  have hI := hI.many (k := 5) (v := .ref lg) (M := (0, lg, .inr (2, ix_LG_fs la)) :: ix_LG_L aC la) f6 (by
    intro q hq
    rcases List.mem_cons.mp hq with rfl | hq
    · exact ⟨o1, hlg⟩
    · obtain ⟨z1, z2⟩ := o2 q hq
      refine ⟨z1, ?_⟩
      rw [jj_up_n (fun z => by rw [z, jj_up_s] at z2; cases z2)] at z2
      exact z2) (by
    show (lg :: (ix_LG_L aC la).map (fun q => q.2.1)).Nodup
    refine List.nodup_cons.mpr ⟨fun hm => ?_, o3⟩
    obtain ⟨q, hq, hqa⟩ := List.mem_map.mp hm
    have z2 := (o2 q hq).2
    rw [hqa, jj_up_s] at z2
    cases z2)
  refine jj_eq (h' := jj_up g6 x (.inr (0, [.ref sb, .ref a3, .ref a4, .int 0, .ref a5, .ref lg, .null, .int 0, .null]))) rfl rfl rfl rfl ?_
  have hI : jj_OI h (jj_up g6 x (.inr (0, [.ref sb, .ref a3, .ref a4, .int 0, .ref a5, .ref lg, .null, .int 0, .null]))) x 0 [.ref sb, .ref a3, .ref a4, .int 0, .ref a5, .ref lg, .null, .int 0, .null] _ := hI
  generalize jj_up g6 x (.inr (0, [.ref sb, .ref a3, .ref a4, .int 0, .ref a5, .ref lg, .null, .int 0, .null])) = g7 at hI ⊢
  refine jj_go C 2 rfl ?_
  refine jj_arrF C hI 0 (N := 12) (a0 := (12, .inl (fun _ => 0))) rfl wd_103 rfl rfl (fun _ => rfl) rfl (by decide) (Nat.le_of_ble_eq_true rfl) (Nat.le_of_ble_eq_true rfl) rfl fp_BS_45 rfl (Nat.le_of_ble_eq_true rfl) (fun a11 g8 hI => ?_)
  have hI : jj_OI h g8 x 0 [.ref sb, .ref a3, .ref a4, .int 0, .ref a5, .ref lg, .ref a11, .int 0, .null] _ := hI
  refine jj_go C 2 rfl ?_
  refine jj_numF C hI rfl fl_BS_49 rfl rfl (Nat.le_of_ble_eq_true rfl) (fun g9 hI => ?_)
  have hI : jj_OI h g9 x 0 [.ref sb, .ref a3, .ref a4, .int 0, .ref a5, .ref lg, .ref a11, .int 0, .null] _ := hI
  refine jj_go C 1 rfl ?_
  refine jj_ldcs C rfl (Or.inl ⟨rfl, rfl⟩) ?_
  refine jj_numF C hI rfl fl_BS_54 rfl rfl (Nat.le_of_ble_eq_true rfl) (fun g10 hI => ?_)
  have hI : jj_OI h g10 x 0 [.ref sb, .ref a3, .ref a4, .int 0, .ref a5, .ref lg, .ref a11, .int 0, .ref (aC 100)] _ := hI
  refine jj_vret C rfl rfl (Nat.le_of_ble_eq_true rfl) (Nat.le_of_ble_eq_true rfl) ⟨rfl, fun k => [x, sb, 0, a3, a4, a5, lg, la 0, la 1, la 2, la 3, a11].getD k 0, b0, rfl, hI⟩
/-- the class's state behind its maker -/
theorem RC.start {h0 : jjHp} {x r0 b0 : Nat} {ca cv cp cm : Nat → Nat} {nn rh : Nat → List Nat} {sg : Nat → Nat → Int32} {mu : Nat → Int64} {io : Nat → Int32} (hx : ca 0 = x) (hI : jj_OI h0 h x 0 (bs_fs ca 0 0 (aC 100)) (ix_BS_L aC ca b0)) (e2 : ∀ i, sg 2 i = 0) (e6 : ∀ i, sg 6 i = 0) (e20 : sg 20 = fun _ => 0) (e33 : rh 33 = []) (e30 : rh 30 = []) (i15 : io 15 = 0) (i16 : io 16 = 63) (i19 : io 19 = 0) : RC aC h r0 b0 ca cv cp cm nn rh sg mu io 16 0 0 (aC 100) (fun _ => none) (fun _ => none) (fun _ => none) := by
  obtain ⟨o1, o2, o3, -⟩ := hI
  have at9 : ∀ (n : Nat) (q : Nat × Nat × va_E), (ix_BS_L aC ca b0)[n]? = some q → h q.2.1 = some q.2.2 := fun n q hq => (o2 q (List.mem_of_getElem? hq)).1
  have k11 := at9 0 _ rfl
  have k6 := at9 1 _ rfl
  have l3 := at9 2 _ rfl
  have l2 := at9 3 _ rfl
  have l1 := at9 4 _ rfl
  have l0 := at9 5 _ rfl
  have k5 := at9 6 _ rfl
  have k4 := at9 7 _ rfl
  have k3 := at9 8 _ rfl
  have k1 := at9 9 _ rfl
  have kb := at9 10 _ rfl
  dsimp only at k11 k6 l3 l2 l1 l0 k5 k4 k3 k1 kb
  refine ⟨by rw [hx, i19]; exact o1, ?_, k3, fun i _ => Or.inl ⟨e2 i, rfl⟩, k4, fun i hi => absurd hi (Nat.not_lt_zero _), k5, fun i _ => Or.inl ⟨e6 i, rfl⟩, ?_, by rw [e20]; exact k11, Or.inl ⟨e30, rfl⟩⟩
  · rw [e33]
    exact ⟨0, fun _ => 0, k1, kb, fun i hi => absurd hi (Nat.not_lt_zero _), (fun _ => rfl), by decide, by decide⟩
  · refine ⟨0, fun _ _ => 0, by decide, by decide, by rw [i15, i16]; exact k6, fun w hw => ?_, ?_, fun k w hk _ => absurd hk (Nat.not_lt_zero _)⟩
    · match w, hw with
      | 0, _ => exact l0
      | 1, _ => exact l1
      | 2, _ => exact l2
      | 3, _ => exact l3
    · have hn : [ca 10, ca 9, ca 8, ca 7].Nodup := by
        have : [ca 11, ca 6, ca 10, ca 9, ca 8, ca 7, ca 5, ca 4, ca 3, ca 1, b0].Nodup := o3
        have := (List.nodup_cons.mp (List.nodup_cons.mp this).2).2
        exact (List.nodup_append.mp (show ([ca 10, ca 9, ca 8, ca 7] ++ [ca 5, ca 4, ca 3, ca 1, b0]).Nodup from this)).1
      simp only [List.nodup_cons, List.mem_cons, List.not_mem_nil, or_false, not_or] at hn
      intro i j hi hj hij
      have hij : ca (7 + i) = ca (7 + j) := hij
      match i, j, hi, hj with
      | 0, 0, _, _ => rfl
      | 0, 1, _, _ => exact absurd hij.symm (by simp_all)
      | 0, 2, _, _ => exact absurd hij.symm (by simp_all)
      | 0, 3, _, _ => exact absurd hij.symm (by simp_all)
      | 1, 0, _, _ => exact absurd hij (by simp_all)
      | 1, 1, _, _ => rfl
      | 1, 2, _, _ => exact absurd hij.symm (by simp_all)
      | 1, 3, _, _ => exact absurd hij.symm (by simp_all)
      | 2, 0, _, _ => exact absurd hij (by simp_all)
      | 2, 1, _, _ => exact absurd hij (by simp_all)
      | 2, 2, _, _ => rfl
      | 2, 3, _, _ => exact absurd hij.symm (by simp_all)
      | 3, 0, _, _ => exact absurd hij (by simp_all)
      | 3, 1, _, _ => exact absurd hij (by simp_all)
      | 3, 2, _, _ => exact absurd hij (by simp_all)
      | 3, 3, _, _ => rfl
end PN
