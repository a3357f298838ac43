/-! The law's start: the words, the classes, the text "" -/
theorem lz_1 {w : Cond} (h : w ∈ tables_1_1) : w ∈ lw_tbl := List.mem_append_right _ (by unfold tables_1; exact List.mem_append_left _ h)
theorem lz_2 {w : Cond} (h : w ∈ tables_1_2) : w ∈ lw_tbl := List.mem_append_right _ (by unfold tables_1; exact List.mem_append_right _ (List.mem_append_left _ h))
theorem lz_3 {w : Cond} (h : w ∈ tables_1_3) : w ∈ lw_tbl := List.mem_append_right _ (by unfold tables_1; exact List.mem_append_right _ (List.mem_append_right _ (List.mem_append_left _ h)))
theorem lz_4 {w : Cond} (h : w ∈ tables_1_4) : w ∈ lw_tbl := List.mem_append_right _ (by unfold tables_1; exact List.mem_append_right _ (List.mem_append_right _ (List.mem_append_right _ (List.mem_append_left _ h))))
theorem lz_5 {w : Cond} (h : w ∈ tables_1_5) : w ∈ lw_tbl := List.mem_append_right _ (by unfold tables_1; exact List.mem_append_right _ (List.mem_append_right _ (List.mem_append_right _ (List.mem_append_right _ (List.mem_append_left _ h)))))
theorem lz_6 {w : Cond} (h : w ∈ tables_1_6) : w ∈ lw_tbl := List.mem_append_right _ (by unfold tables_1; exact List.mem_append_right _ (List.mem_append_right _ (List.mem_append_right _ (List.mem_append_right _ (List.mem_append_right _ (h))))))
theorem xs_sel {y z z' : MethodName} {s : State} {args : Array Value} (hy : y.cls ≠ "java/lang/invoke/MethodHandle" ∧ y.cls ≠ "java/lang/invoke/VarHandle") (hz : y.cls = z'.cls) (hw : (Cond.selects "java/lang/StringBuilder" z z').before args s = true) (hpriv : (Cond.privateMethod y).before args s = true) (hinst : (Cond.instanceMethod y).before args s = true) : (Cond.selects "java/lang/StringBuilder" y y).before args s = true := by
  obtain ⟨c, r, m, hc, -, hm, -, mk, hmk, hi⟩ := Cond.selects_spec hw
  obtain ⟨m', methM, hnamed, hmethM, -, -⟩ := Cond.instanceMethod_spec hinst
  have hfound : s.methodFound? y.cls y.name y.desc = some m' := State.methodFound?_of_named hnamed hy
  have hcls : m'.cls = m.cls := Option.some.inj ((findClass_of_methodNamed hnamed).symm.trans (by rw [hz]; exact findClass_of_methodNamed hm))
  have hsel : selectMethod {} s.vm c m' = .method m' := selectMethod_private hmethM (Cond.privateMethod_at hpriv m' methM hnamed hmethM)
  simp only [Cond.before, Cond.holds, Cond.value, hc, hfound, hnamed, hsel, hcls, hmk]
  simp
  exact hi
theorem xs_all {s : State} {args : Array Value} (hts : ∀ w ∈ lw_tbl, w.before args s = true) : ∀ w ∈ jj_gw, w.before args s = true := by
  have h189 := hts (Cond.selects "java/lang/StringBuilder" ⟨"java/lang/AbstractStringBuilder", "isLatin1", "()Z"⟩ ⟨"java/lang/AbstractStringBuilder", "isLatin1", "()Z"⟩) (lz_1 (List.mem_of_getElem? (i := 189) (by decide +kernel)))
  have hxs : ∀ w ∈ jj_xs, w.before args s = true := by
    unfold jj_xs
    refine List.forall_mem_cons.mpr ⟨xs_sel (z' := ⟨"java/lang/AbstractStringBuilder", "isLatin1", "()Z"⟩) ⟨by decide, by decide⟩ rfl h189 (hts _ (lz_1 (List.mem_of_getElem? (i := 152) (by decide +kernel)))) (hts _ (lz_1 (List.mem_of_getElem? (i := 153) (by decide +kernel)))), ?_⟩
    refine List.forall_mem_cons.mpr ⟨xs_sel (z' := ⟨"java/lang/AbstractStringBuilder", "isLatin1", "()Z"⟩) ⟨by decide, by decide⟩ rfl h189 (hts _ (lz_1 (List.mem_of_getElem? (i := 156) (by decide +kernel)))) (hts _ (lz_1 (List.mem_of_getElem? (i := 157) (by decide +kernel)))), ?_⟩
    refine List.forall_mem_cons.mpr ⟨xs_sel (z' := ⟨"java/lang/AbstractStringBuilder", "isLatin1", "()Z"⟩) ⟨by decide, by decide⟩ rfl h189 (hts _ (lz_1 (List.mem_of_getElem? (i := 195) (by decide +kernel)))) (hts _ (lz_1 (List.mem_of_getElem? (i := 196) (by decide +kernel)))), ?_⟩
    refine List.forall_mem_cons.mpr ⟨xs_sel (z' := ⟨"java/lang/AbstractStringBuilder", "isLatin1", "()Z"⟩) ⟨by decide, by decide⟩ rfl h189 (hts _ (lz_3 (List.mem_of_getElem? (i := 205) (by decide +kernel)))) (hts _ (lz_3 (List.mem_of_getElem? (i := 206) (by decide +kernel)))), ?_⟩
    exact fun _ h => absurd h List.not_mem_nil
  intro w hw
  rcases List.mem_append.mp (List.mem_filter.mp hw).1 with q | q
  · exact hxs w q
  · exact hts w q
theorem nw_kn {own : String} {idx ci N : Nat} {fs : List Value} {s : State} {args : Array Value} (hq : jj_NW own idx ci N fs) (hts : ∀ w ∈ jj_gw, w.before args s = true) : ∃ q : ClassId × (Nat → Nat), ∀ r, jj_cl[ci]? = some r → u_Kn s r.1 r.2.1 r.2.2 q.1 q.2 := by
  obtain ⟨C, T, t0, ⟨c1, c2, -, -⟩, -, w2, -, -⟩ := hq
  obtain ⟨cC, iS, hk⟩ := u_known hts c2 (hts _ w2)
  exact ⟨(cC, iS), fun r hr => by rw [c1] at hr; cases hr; exact hk⟩
theorem law_D {s : State} {args : Array Value} (hts : ∀ w ∈ jj_gw, w.before args s = true) : ∃ D : va_G, ∀ (c : Nat) (q : vw_C), jj_cl[c]? = some q → u_Kn s q.1 q.2.1 q.2.2 (D.1 c) (D.2 c) := by
  have h : ∀ c : Nat, ∃ q : ClassId × (Nat → Nat), ∀ r, jj_cl[c]? = some r → u_Kn s r.1 r.2.1 r.2.2 q.1 q.2 := by
    intro c
    match c with
    | 0 => exact nw_kn nw_LW_7 hts
    | 1 => exact nw_kn nw_BS_16 hts
    | 2 => exact nw_kn nw_BS_38 hts
    | 3 => exact nw_kn nw_BS_71 hts
    | 4 => exact nw_kn nw_BS_22 hts
    | 5 => exact nw_kn nw_BS_111 hts
    | 6 => exact nw_kn nw_BS_129 hts
    | 7 => exact nw_kn nw_BS_171 hts
    | 8 => exact nw_kn nw_BS_176 hts
    | 9 => exact nw_kn nw_LW_10 hts
    | 10 => exact nw_kn nw_SB_18 hts
    | 11 => exact nw_kn nw_BS_7 hts
    | c + 12 => exact ⟨(0, fun _ => 0), fun r hr => by
        rw [List.getElem?_eq_none (by show 12 ≤ c + 12; omega)] at hr
        cases hr⟩
  obtain ⟨f, hf⟩ := Classical.axiomOfChoice h
  exact ⟨(fun c => (f c).1, fun c => (f c).2), fun c q hq => hf c q hq⟩
theorem law_ar {ty : FieldType} {s : State} {args : Array Value} (h : (Cond.arrayClass ty).before args s = true) (hr : ∀ cA, s.vm.findClass ("[" ++ ty.toString) = some cA → va_RA s cA ty) : ∃ cA, ArrOfT s cA ty ∧ va_RA s cA ty := by
  obtain ⟨c, k, comp, h1, h2, h3⟩ := Cond.arrayClass_spec h
  exact ⟨c, fun n z => ⟨fun k h => (by cases h), k, h2, comp, h3⟩, hr c h1⟩
theorem law_ao {C : String} {s : State} {args : Array Value} (h : (Cond.arrayOver (.object C)).before args s = true) : ∃ cA, ArrOfT s cA (.object C) ∧ va_RA s cA (.object C) := by
  obtain ⟨comp, c, k, h1, -, h3, h4, h5⟩ := Cond.arrayOver_spec h
  exact ⟨c, fun n z => ⟨fun k h => (by cases h), k, h3, comp, h4⟩, k, comp, h3, h4, h1, h5⟩
theorem arr_inj {s : State} {cA : ClassId} {t1 t2 : FieldType} (h1 : ArrOfT s cA t1) (h2 : ArrOfT s cA t2) : t1 = t2 := by
  obtain ⟨-, k, a1, comp, a2⟩ := h1 0 (fun _ => .null)
  obtain ⟨-, k', b1, comp', b2⟩ := h2 0 (fun _ => .null)
  rw [a1] at b1
  cases b1
  rw [a2] at b2
  cases b2
  rfl
def ty_L : List FieldType := [.int, .boolean, .char, .long, .byte, .object "BeanServer$Bean", .object "BeanServer$Query", .object "BeanServer$Monitor"]
theorem ty_inj : ∀ i, i < 8 → ∀ j, j < 8 → ty_L.getD i .int = ty_L.getD j .int → i = j := by decide +kernel
theorem jA_of {D : va_G} {aC : Nat → ClassId} {s : State} (hK : va_K D jj_cl (jj_tys aC) s) : jA aC := by
  have at9 : ∀ i, i < 8 → (jj_tys aC)[i]? = some (aC i, ty_L.getD i .int) := by
    intro i hi
    match i, hi with
    | 0, _ => rfl
    | 1, _ => rfl
    | 2, _ => rfl
    | 3, _ => rfl
    | 4, _ => rfl
    | 5, _ => rfl
    | 6, _ => rfl
    | 7, _ => rfl
  intro i j hi hj h
  have ai := (hK.2 i _ (at9 i hi)).1
  have aj := (hK.2 j _ (at9 j hj)).1
  dsimp only at ai aj
  rw [← h] at aj
  exact ty_inj i hi j hj (arr_inj ai aj)
/-- the law's start -/
theorem law_E {s : State} {b : Nat} (hts : ∀ w ∈ lw_tbl, w.before #[Value.ref b] s = true) (hgv : (Jvm.Cond.and given_1 narrow_1).before #[Value.ref b] s = true) : ∃ D aC, jj_E D aC s.heap.size s ∧ jA aC := by
  have hgw := xs_all hts
  have hs := flat_of_before _ hgv
  have hA : ∀ a : Nat, a < s.heap.size → ¬ jj_A s.heap.size a := fun a h q => Nat.not_le.mpr h q
  obtain ⟨D, hD⟩ := law_D hgw
  obtain ⟨c0, a0, r0⟩ := law_ar (ty := .int) (hts _ (lz_1 (List.mem_of_getElem? (i := 103) (by decide +kernel)))) (fun _ h => h)
  obtain ⟨c1, a1, r1⟩ := law_ar (ty := .boolean) (hts _ (lz_3 (List.mem_of_getElem? (i := 28) (by decide +kernel)))) (fun _ h => h)
  obtain ⟨c2, a2, r2⟩ := law_ar (ty := .char) (hts _ (lz_5 (List.mem_of_getElem? (i := 0) (by decide +kernel)))) (fun _ h => h)
  obtain ⟨c3, a3, r3⟩ := law_ar (ty := .long) (hts _ (lz_5 (List.mem_of_getElem? (i := 1) (by decide +kernel)))) (fun _ h => h)
  obtain ⟨c4, a4, r4⟩ := law_ar (ty := .byte) (hts _ (lz_1 (List.mem_of_getElem? (i := 63) (by decide +kernel)))) (fun _ h => h)
  obtain ⟨c5, a5, r5⟩ := law_ao (C := "BeanServer$Bean") (hts _ (lz_1 (List.mem_of_getElem? (i := 65) (by decide +kernel))))
  obtain ⟨c6, a6, r6⟩ := law_ao (C := "BeanServer$Query") (hts _ (lz_1 (List.mem_of_getElem? (i := 67) (by decide +kernel))))
  obtain ⟨c7, a7, r7⟩ := law_ao (C := "BeanServer$Monitor") (hts _ (lz_1 (List.mem_of_getElem? (i := 69) (by decide +kernel))))
  obtain ⟨adK, adV, hS, hev⟩ := vk_Sof (args := #[Value.ref b]) (s := s) (N := 1) (tm := fun _ => .string "BeanServer" 52) (len := [0]) (byt := [[]]) (A := jj_A s.heap.size) (fun i hi => by
      rw [show i = 0 by omega]
      decide) (fun i _ => hs _ (by decide +kernel)) (fun i _ => hs _ (by decide +kernel)) (fun i _ => hs _ (by decide +kernel)) (fun i hi => by
      rw [show i = 0 by omega]
      exact hs _ (by decide +kernel)) (fun i hi j hj => by
      rw [show i = 0 by omega] at hj
      exact absurd hj (Nat.not_lt_zero _)) (fun i j hi hj hij => absurd (show i = j by omega) hij) hA
  have hev0 := hev 0 (by decide)
  have hev1 : (Term.string "BeanServer$Pattern" 26).eval #[Value.ref b] s none [] s = some (.ref (adK 0)) := va_eqR (hs _ (by decide +kernel)) hev0
  have hK : va_K D jj_cl (jj_tys (fun k => match k with | 0 => c0 | 1 => c1 | 2 => c2 | 3 => c3 | 4 => c4 | 5 => c5 | 6 => c6 | 7 => c7 | 100 => adK 0 | _ => adV 0)) s := by
    refine ⟨hD, fun k q hq => ?_⟩
    match k with
    | 0 => cases hq; exact ⟨a0, r0⟩
    | 1 => cases hq; exact ⟨a1, r1⟩
    | 2 => cases hq; exact ⟨a2, r2⟩
    | 3 => cases hq; exact ⟨a3, r3⟩
    | 4 => cases hq; exact ⟨a4, r4⟩
    | 5 => cases hq; exact ⟨a5, r5⟩
    | 6 => cases hq; exact ⟨a6, r6⟩
    | 7 => cases hq; exact ⟨a7, r7⟩
    | k + 8 =>
      rw [List.getElem?_eq_none (by show 8 ≤ k + 8; omega)] at hq
      cases hq
  refine ⟨D, _, ⟨hK, fun q hq => absurd hq List.not_mem_nil, ?_, ?_, ?_, va_Zof (hts _ (lz_1 (List.mem_of_getElem? (i := 41) (by decide +kernel)))) (hts _ (lz_1 (List.mem_of_getElem? (i := 4) (by decide +kernel)))) (va_eqt (hs _ (by decide +kernel))) hA, Nat.le_refl _, va_Zqof (hts _ (lz_1 (List.mem_of_getElem? (i := 214) (by decide +kernel)))) (hts _ (lz_1 (List.mem_of_getElem? (i := 13) (by decide +kernel)))) (hs _ (by decide +kernel)) hA, vk_R.of (hts _ (lz_1 (List.mem_of_getElem? (i := 104) (by decide +kernel)))) hev0, vk_R.of (hts _ (lz_2 (List.mem_of_getElem? (i := 94) (by decide +kernel)))) hev1, ?_, ?_⟩, jA_of hK⟩
  · exact List.forall_mem_cons.mpr ⟨va_Nw.of rfl (hts _ (lz_1 (List.mem_of_getElem? (i := 72) (by decide +kernel)))), fun _ h => absurd h List.not_mem_nil⟩
  · exact List.forall_mem_cons.mpr ⟨va_Nw.of rfl (hts _ (lz_4 (List.mem_of_getElem? (i := 106) (by decide +kernel)))), List.forall_mem_cons.mpr ⟨va_Nw.of rfl (hts _ (lz_4 (List.mem_of_getElem? (i := 123) (by decide +kernel)))), fun _ h => absurd h List.not_mem_nil⟩⟩
  · exact List.forall_mem_cons.mpr ⟨va_AO.of (hts _ (lz_1 (List.mem_of_getElem? (i := 65) (by decide +kernel)))), List.forall_mem_cons.mpr ⟨va_AO.of (hts _ (lz_1 (List.mem_of_getElem? (i := 67) (by decide +kernel)))), List.forall_mem_cons.mpr ⟨va_AO.of (hts _ (lz_1 (List.mem_of_getElem? (i := 69) (by decide +kernel)))), fun _ h => absurd h List.not_mem_nil⟩⟩⟩
  · refine ⟨fun i hi => ?_, fun i j hi hj _ => by omega⟩
    have := hS.1 i hi
    rw [show i = 0 by omega] at this ⊢
    exact this
  · exact List.forall_mem_cons.mpr ⟨va_Nw.of rfl (hts _ (lz_1 (List.mem_of_getElem? (i := 178) (by decide +kernel)))), List.forall_mem_cons.mpr ⟨va_Nw.of rfl (hts _ (lz_6 (List.mem_of_getElem? (i := 37) (by decide +kernel)))), List.forall_mem_cons.mpr ⟨va_Nw.of rfl (hts _ (lz_6 (List.mem_of_getElem? (i := 38) (by decide +kernel)))), fun _ h => absurd h List.not_mem_nil⟩⟩⟩
