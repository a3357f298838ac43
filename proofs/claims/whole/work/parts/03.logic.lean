/-! The worlds as functions: what the heap holds, by address; a method's walk over such a world; contracts of one shape. -/
abbrev jjHp : Type := Nat → Option va_E
def jj_A (base : Nat) : Nat → Prop := fun q => base ≤ q
def jj_W (D : va_G) (base : Nat) (h : jjHp) (H : Heap) : Prop := ∃ ws : va_W, va_P D jj_cl ws H ∧ va_D (jj_A base) ws ∧ ∀ a e, h a = some e → ∃ q : Nat, ws[q]? = some (a, e)
def jj_up (h : jjHp) (a : Nat) (e : va_E) : jjHp := fun b => if b = a then some e else h b
theorem jj_up_s {h : jjHp} {a : Nat} {e : va_E} : jj_up h a e a = some e := if_pos rfl
theorem jj_up_n {h : jjHp} {a b : Nat} {e : va_E} (hn : b ≠ a) : jj_up h a e b = h b := if_neg hn
theorem jj_up_f {h : jjHp} {a b : Nat} {e e' : va_E} (hf : h a = none) (hb : h b = some e') : jj_up h a e b = some e' := (jj_up_n (fun q => by subst q; rw [hf] at hb; cases hb)).trans hb
theorem jj_set_in {A : Nat → Prop} {h : jjHp} {ws : va_W} {q0 a : Nat} {e0 e1 : va_E} (hh : ∀ a e, h a = some e → ∃ q : Nat, ws[q]? = some (a, e)) (hq : ws[q0]? = some (a, e0)) : ∀ b e, jj_up h a e1 b = some e → ∃ q : Nat, (ws.set q0 (a, e1))[q]? = some (b, e) := by
  intro b e hb
  have hl : q0 < ws.length := (List.getElem?_eq_some_iff.mp hq).1
  by_cases hba : b = a
  · subst hba
    rw [jj_up_s] at hb
    cases hb
    exact ⟨q0, List.getElem?_set_self hl⟩
  · rw [jj_up_n hba] at hb
    obtain ⟨q, h1⟩ := hh b e hb
    refine ⟨q, ?_⟩
    rw [List.getElem?_set_ne (fun z => hba ?_)]
    · exact h1
    · subst z
      rw [hq] at h1
      exact (congrArg Prod.fst (Option.some.inj h1)).symm
theorem jj_push_in {h : jjHp} {ws : va_W} {a : Nat} {e1 : va_E} (hh : ∀ a e, h a = some e → ∃ q : Nat, ws[q]? = some (a, e)) : ∀ b e, jj_up h a e1 b = some e → ∃ q : Nat, (ws ++ [(a, e1)])[q]? = some (b, e) := by
  intro b e hb
  by_cases hba : b = a
  · subst hba
    rw [jj_up_s] at hb
    cases hb
    exact ⟨ws.length, by simp⟩
  · rw [jj_up_n hba] at hb
    obtain ⟨q, h1⟩ := hh b e hb
    exact ⟨q, by rw [List.getElem?_append_left (List.getElem?_eq_some_iff.mp h1).1]; exact h1⟩
theorem jj_fresh {A : Nat → Prop} {h : jjHp} {ws : va_W} {a : Nat} {e1 : va_E} (hh : ∀ a e, h a = some e → ∃ q : Nat, ws[q]? = some (a, e)) (hD : va_D A (ws ++ [(a, e1)])) : h a = none := by
  cases hv : h a with
  | none => rfl
  | some e =>
    obtain ⟨q, h1⟩ := hh a e hv
    have hl := (List.getElem?_eq_some_iff.mp h1).1
    have h2 : (ws ++ [(a, e1)])[q]? = some (a, e) := by rw [List.getElem?_append_left hl]; exact h1
    have h3 : (ws ++ [(a, e1)])[ws.length]? = some (a, e1) := by simp
    have := hD.1 q ws.length _ _ h2 h3 rfl
    omega
/-- a room for d frames -/
def jj_rm (d mc ms : Nat) : Room := { frames := d, cells := mc, slots := ms, locals := 64 * d }
def jj_E (D : va_G) (aC : Nat → ClassId) (base : Nat) (U : State) : Prop :=
  va_K D jj_cl (jj_tys aC) U ∧ (∀ q ∈ jj_nF, va_Nw (.fieldLinkNest q.1 q.2.1 q.2.2.1 q.2.2.2.1 q.2.2.2.2.1 q.2.2.2.2.2) U) ∧ (∀ q ∈ jj_nM, va_Nw (.methodLinkNest q.1 q.2.1 q.2.2.1 q.2.2.2) U) ∧ (∀ x ∈ jj_dc, va_Nw (.declares x) U) ∧ (∀ C ∈ jj_ao, va_AO C U) ∧ va_Z "java/lang/String" "COMPACT_STRINGS" "Z" (.int 1) (jj_A base) U U.heap ∧ base ≤ U.heap.size ∧ va_Zq "jdk/internal/util/Preconditions" "SIOOBE_FORMATTER" "Ljava/util/function/BiFunction;" (jj_A base) U U.heap ∧ vk_R "BeanServer" 52 "" (aC 100) U ∧ vk_R "BeanServer$Pattern" 26 "" (aC 100) U ∧ vk_S 1 [0] [[]] (fun _ => aC 100) (fun _ => aC 101) (jj_A base) U U.heap ∧ ∀ q ∈ jj_ca, va_Nw (.castable q.1 q.2) U
theorem jj_E.same {D : va_G} {aC : Nat → ClassId} {base : Nat} {u U : State} (h : jj_E D aC base u) (hv : u.vm = U.vm) (hh : U.heap = u.heap) : jj_E D aC base U := by
  obtain ⟨h1, h2, h3, h4, h5, h6, h7, h8, h9, h10, h11, h12⟩ := h
  have hal : u.vm.Alike U.vm := by rw [hv]; exact Vm.Alike.refl _
  exact ⟨va_K.moved hal h1, fun q hq => va_Nw.same rfl hv (h2 q hq), fun q hq => va_Nw.same rfl hv (h3 q hq), fun q hq => va_Nw.same rfl hv (h4 q hq), fun q hq => va_AO.moved hal (h5 q hq), by rw [hh]; exact va_Z.moved hal h6, by rw [hh]; exact h7, by rw [hh]; exact va_Zq.moved hal h8, vk_R.same hv.symm h9, vk_R.same hv.symm h10, by rw [hh]; exact vk_S.moved hal h11, fun q hq => va_Nw.same rfl hv (h12 q hq)⟩
theorem jj_E.moved {D : va_G} {aC : Nat → ClassId} {base : Nat} {u U : State} (h : jj_E D aC base u) (hW : u.WarmedH U.vm) (hz : u.heap.size ≤ U.heap.size) (hk : ∀ q : Nat, q < u.heap.size → ¬ jj_A base q → U.heap[q]? = u.heap[q]?) : jj_E D aC base U := by
  obtain ⟨h1, h2, h3, h4, h5, h6, h7, h8, h9, h10, h11, h12⟩ := h
  have hal : u.vm.Alike U.vm := hW.alike
  exact ⟨va_K.moved hal h1, fun q hq => va_Nw.warmF hW (h2 q hq), fun q hq => va_Nw.warmM hW (h3 q hq), fun q hq => va_Nw.warmD hW (h4 q hq), fun q hq => va_AO.moved hal (h5 q hq), va_Z.kept (va_Z.moved hal h6) hk, Nat.le_trans h7 hz, va_Zq.kept (va_Zq.moved hal h8) hk, vk_R.warm hW h9, vk_R.warm hW h10, vk_S.kept (vk_S.moved hal h11) hk, fun q hq => va_Nw.warmC hW (h12 q hq)⟩
/-- a contract's end: what is returned and the world behind it -/
def jj_Q (D : va_G) (base : Nat) (Post : Option Value → jjHp → Prop) : Array Value → State → Outcome → State → Prop := fun _ st o t => (∃ (r : Option Value) (h' : jjHp), o = .returned r ∧ Post r h' ∧ jj_W D base h' t.heap) ∧ va_F (jj_A base) st t
/-- the contract of a method: from the arguments av and the world h it returns, with Post of its answer and its world; d frames, mc cells, ms slots at most -/
def jj_Ct (l : Launch) (D : va_G) (aC : Nat → ClassId) (base : Nat) (y : MethodName) (b : ByteArray) (nL : Nat) (ret : Option FieldType) (d mc ms : Nat) (av : List Value) (h : jjHp) (Post : Option Value → jjHp → Prop) : Prop :=
  Met l y (.code y b nL ret :: jj_gw) (jj_rm d mc ms) (va_Pc av (fun U => jj_E D aC base U ∧ jj_W D base h U.heap)) (jj_Q D base Post) mc ms (jj_A base)
/-- the walk at a place of the method, over a world -/
def jj_J (p : Program) (l : Launch) (e : Env) (R : Room) (s : State) (m : MethodId) (args : Array Value) (below : List Frame) (meth : Method) (c : Code) (D : va_G) (base nL : Nat) (Q : State → Prop) (pc : Nat) (lc : jjLoc) (st : List Value) (h : jjHp) (kc ks : Nat) : Prop :=
  ∀ (H : Heap) (locs : List Loc) (ls : Array Slot), jj_W D base h H → va_S (jj_A base) s.heap H locs → lv_has ls nL lc → W p l e R s m args below meth c H locs kc ks Q (F0 m pc ls st)
/-- what holds all through the body of a method -/
def jj_C (p : Program) (s : State) (m : MethodId) (args : Array Value) (meth : Method) (c : Code) (y : MethodName) (cc : ByteArray) (nL : Nat) (ret : Option FieldType) (tb : jjTab) (D : va_G) (aC : Nat → ClassId) (base : Nat) : Prop :=
  p.tables.exec = Jvm.exec ∧ c.code = cc ∧ c.maxLocals = nL ∧ s.vm.findClass y.cls = some m.cls ∧ (∀ w ∈ jj_gw, w.before args s = true) ∧ jj_good cc nL tb ∧ jj_E D aC base s ∧ meth.locks = false ∧ (y.name = "<init>" → meth.name = "<init>") ∧ meth.sig.returnType = ret
theorem jj_gw_good : ∀ w ∈ jj_gw, w ∈ jj_gw ∧ ((w.onTables && w.keeps) = true ∨ ∃ ty, w = .arrayClass ty) := fun w hw => ⟨hw, good_of_word (List.mem_filter.mp hw).2⟩
theorem jj_gw_in {y : MethodName} {b : ByteArray} {nL : Nat} {ret : Option FieldType} (h : Cond.code y b nL ret ∈ jj_gw) : GoodIn jj_gw (.code y b nL ret :: jj_gw) := by
  intro w hw
  rcases List.mem_cons.mp hw with rfl | hw
  · exact jj_gw_good _ h
  · exact jj_gw_good w hw
theorem jj_blind {D : va_G} {aC : Nat → ClassId} {base : Nat} {av : List Value} {h : jjHp} : FrameBlind (va_Pc av (fun U => jj_E D aC base U ∧ jj_W D base h U.heap)) := fun a U g mk q => ⟨q.1, q.2.1.same rfl rfl, q.2.2⟩
section JJL
variable {p : Program} {l : Launch} {e : Env} {R : Room} {s : State} {m : MethodId} {args : Array Value} {below : List Frame} {meth : Method} {c : Code} {Q : State → Prop} {y : MethodName} {cc : ByteArray} {nL : Nat} {ret : Option FieldType} {tb : jjTab} {D : va_G} {aC : Nat → ClassId} {base : Nat}
variable {pc pc' nx tg idx kc ks mc ms d : Nat} {kv : Int32} {lc lc' : jjLoc} {st st' rest : List Value} {h : jjHp} {a : Nat}
theorem jj_start {b : ByteArray} {av : List Value} {Post : Option Value → jjHp → Prop} (hy : plainName y.cls = true) (hg : jj_good b nL tb) (hn : (lg_sl av).length ≤ nL)
    (body : ∀ (p : Program) (e : Env) (s : State) (m : MethodId) (args : Array Value) (below : List Frame) (meth : Method) (c : Code), jj_C p s m args meth c y b nL ret tb D aC base → jj_J p l e (jj_rm d mc ms) s m args below meth c D base nL (MQ below (jj_Q D base Post) args s mc ms (jj_A base)) 0 (lv_args 0 av) [] h 0 0) : jj_Ct l D aC base y b nL ret d mc ms av h Post := by
  refine Met.ofW (cc := b) (maxL := nL) (ret := ret) hy rfl ?_
  intro p e s m args below meth c s₁ B hml hv
  obtain ⟨rfl, hE, hw⟩ := hv
  have hts := atoms_spec (ws := .code y b nL ret :: jj_gw) B.pre
  have C : jj_C p s m av.toArray meth c y b nL ret tb D aC base := ⟨B.exec, B.bytes, hml, findClass_of_methodNamed B.named, fun w h => hts w (List.mem_cons_of_mem _ h), hg, hE, B.notSynchronized, fun hi => (name_of_methodNamed B.named B.method).1.trans hi, B.returns⟩
  have hl := lv_entry av (n := nL) hn
  rw [lg_entry_eq]
  exact body p e s m _ below meth c C s.heap [] _ hw va_S.rf hl
theorem jj_go (C : jj_C p s m args meth c y cc nL ret tb D aC base) (n : Nat) (hs : jj_run tb n (pc, lc, st) = some (pc', lc', st')) (k : jj_J p l e R s m args below meth c D base nL Q pc' lc' st' h kc ks) : jj_J p l e R s m args below meth c D base nL Q pc lc st h kc ks :=
  fun H locs ls hw hS hl => jj_run_w C.1 C.2.1 C.2.2.2.2.2.1 n hs hl (fun ls' h' => k H locs ls' hw hS h')
theorem jj_if (C : jj_C p s m args meth c y cc nL ret tb D aC base) {P : Prop} {t1 t2 : Nat} (hs : jj_br tb pc st = some (P, t1, t2, st')) (kt : P → jj_J p l e R s m args below meth c D base nL Q t1 lc st' h kc ks) (kf : ¬ P → jj_J p l e R s m args below meth c D base nL Q t2 lc st' h kc ks) : jj_J p l e R s m args below meth c D base nL Q pc lc st h kc ks :=
  fun H locs ls hw hS hl => jj_br_w C.1 C.2.1 C.2.2.2.2.2.1 hs (fun z => kt z H locs ls hw hS hl) (fun z => kf z H locs ls hw hS hl)
/-- fewer locals, a wider count -/
theorem jj_less (hs : ∀ q ∈ lc', q ∈ lc) (hc : kc ≤ mc) (hd : ks ≤ ms) (k : jj_J p l e R s m args below meth c D base nL Q pc lc' st h mc ms) : jj_J p l e R s m args below meth c D base nL Q pc lc st h kc ks :=
  fun H locs ls hw hS hl => W.widen hc hd (k H locs ls hw hS (jj_has_of hl hs))
theorem jj_idiv (C : jj_C p s m args meth c y cc nL ret tb D aC base) {x z : Int32} (hf : jj_look tb pc = some (.idiv, nx, tg, kv)) (hz : ¬ z = 0) (k : jj_J p l e R s m args below meth c D base nL Q nx lc (.int (x / z) :: st) h kc ks) : jj_J p l e R s m args below meth c D base nL Q pc lc (.int z :: .int x :: st) h kc ks := by
  obtain ⟨a1, a2, -⟩ := jj_good_at C.2.2.2.2.2.1 hf
  subst a2
  exact fun H locs ls hw hS hl => lv_idiv C.1 C.2.1 a1 hz (k H locs ls hw hS hl)
theorem jj_irem (C : jj_C p s m args meth c y cc nL ret tb D aC base) {x z : Int32} (hf : jj_look tb pc = some (.irem, nx, tg, kv)) (hz : ¬ z = 0) (k : jj_J p l e R s m args below meth c D base nL Q nx lc (.int (x - x / z * z) :: st) h kc ks) : jj_J p l e R s m args below meth c D base nL Q pc lc (.int z :: .int x :: st) h kc ks := by
  obtain ⟨a1, a2, -⟩ := jj_good_at C.2.2.2.2.2.1 hf
  subst a2
  exact fun H locs ls hw hS hl => lv_irem C.1 C.2.1 a1 hz (k H locs ls hw hS hl)
theorem jj_ldiv (C : jj_C p s m args meth c y cc nL ret tb D aC base) {x z : Int64} (hf : jj_look tb pc = some (.ldiv, nx, tg, kv)) (hz : ¬ z = 0) (k : jj_J p l e R s m args below meth c D base nL Q nx lc (.long (x / z) :: st) h kc ks) : jj_J p l e R s m args below meth c D base nL Q pc lc (.long z :: .long x :: st) h kc ks := by
  obtain ⟨a1, a2, -⟩ := jj_good_at C.2.2.2.2.2.1 hf
  subst a2
  exact fun H locs ls hw hS hl => lv_ldiv C.1 C.2.1 a1 hz (k H locs ls hw hS hl)
-- the ends
variable {Post : Option Value → jjHp → Prop}
theorem jj_iret (C : jj_C p s m args meth c y cc nL ret tb D aC base) {v : Int32} {ty : FieldType} (hf : jj_look tb pc = some (.ireturn, nx, tg, kv)) (hr : ret = some ty) (hn : narrow ty (.int v) = .int v) (hc : kc ≤ mc) (hd : ks ≤ ms) (hp : Post (some (.int v)) h) : jj_J p l e R s m args below meth c D base nL (MQ below (jj_Q D base Post) args s mc ms (jj_A base)) pc lc [.int v] h kc ks := by
  obtain ⟨hx, hb, -, -, -, hg, -, hlk, -, hret⟩ := C
  obtain ⟨a1, a2, -⟩ := jj_good_at hg hf
  exact fun H locs ls hw hS hl => W.widen hc hd (W.zret hx hb (hret.trans hr) hn (fun t ht hW => ⟨⟨_, h, rfl, hp, by rw [ht]; exact hw⟩, hS.F ht⟩) hS.2.2 a1 hlk)
theorem jj_vret (C : jj_C p s m args meth c y cc nL ret tb D aC base) (hf : jj_look tb pc = some (.return_, nx, tg, kv)) (hr : ret = none) (hc : kc ≤ mc) (hd : ks ≤ ms) (hp : Post none h) : jj_J p l e R s m args below meth c D base nL (MQ below (jj_Q D base Post) args s mc ms (jj_A base)) pc lc [] h kc ks := by
  obtain ⟨hx, hb, -, -, -, hg, -, hlk, -, hret⟩ := C
  obtain ⟨a1, a2, -⟩ := jj_good_at hg hf
  exact fun H locs ls hw hS hl => W.widen hc hd (W.vret hx hb (hret.trans hr) (fun t ht hW => ⟨⟨_, h, rfl, hp, by rw [ht]; exact hw⟩, hS.F ht⟩) hS.2.2 a1 hlk)
theorem jj_lret (C : jj_C p s m args meth c y cc nL ret tb D aC base) {v : Int64} (hf : jj_look tb pc = some (.lreturn, nx, tg, kv)) (hr : ret = some .long) (hc : kc ≤ mc) (hd : ks ≤ ms) (hp : Post (some (.long v)) h) : jj_J p l e R s m args below meth c D base nL (MQ below (jj_Q D base Post) args s mc ms (jj_A base)) pc lc [.long v] h kc ks := by
  obtain ⟨hx, hb, -, -, -, hg, -, hlk, -, hret⟩ := C
  obtain ⟨a1, a2, -⟩ := jj_good_at hg hf
  exact fun H locs ls hw hS hl => W.widen hc hd (W.lret hx hb (hret.trans hr) (fun t ht hW => ⟨⟨_, h, rfl, hp, by rw [ht]; exact hw⟩, hS.F ht⟩) hS.2.2 a1 hlk)
theorem jj_aret (C : jj_C p s m args meth c y cc nL ret tb D aC base) {v : Value} {rt : FieldType} (hf : jj_look tb pc = some (.areturn, nx, tg, kv)) (hr : ret = some rt) (hrt : (∃ n, rt = .object n) ∨ ∃ t, rt = .array t) (hv : v = .null ∨ ∃ a, v = .ref a) (hc : kc ≤ mc) (hd : ks ≤ ms) (hp : Post (some v) h) : jj_J p l e R s m args below meth c D base nL (MQ below (jj_Q D base Post) args s mc ms (jj_A base)) pc lc [v] h kc ks := by
  obtain ⟨hx, hb, -, -, -, hg, -, hlk, -, hret⟩ := C
  obtain ⟨a1, a2, -⟩ := jj_good_at hg hf
  exact fun H locs ls hw hS hl => W.widen hc hd (W.aret hx hb (hret.trans hr) hrt hv (fun t ht hW => ⟨⟨_, h, rfl, hp, by rw [ht]; exact hw⟩, hS.F ht⟩) hS.2.2 a1 hlk)
end JJL
/-! fields -/
/-- a class of the list: its name, its fields, their number and types -/
def jj_CL (ci : Nat) (C : String) (T : u_T) (N : Nat) (t0 : Nat → FieldType) : Prop := jj_cl[ci]? = some (C, T, N) ∧ (∀ w ∈ u_ws C T N, w ∈ jj_gw) ∧ (∀ k, k < N → parseFieldDescriptor (T k).2.2.1 = some (t0 k)) ∧ ∀ a, a < N → ∀ b, b < N → a ≠ b → (T a).2.1 ≠ (T b).2.1
/-- a field that a class's constant pool names: field k of class ci, of type ty, final or not -/
def jj_FL (own : String) (idx ci k : Nat) (ty : FieldType) (fin : Bool) : Prop := ∃ (C : String) (T : u_T) (N : Nat) (t0 : Nat → FieldType) (ref : String), jj_CL ci C T N t0 ∧ k < N ∧ t0 k = ty ∧ (T k).2.2.2 = fin ∧ (Cond.fieldLink own idx ref (T k).2.1 (T k).2.2.1 ∈ jj_gw ∨ ∃ host : String, (own, idx, ref, (T k).2.1, (T k).2.2.1, host) ∈ jj_nF) ∧ (ref = (T k).1 ∨ Cond.sameField ref (T k).1 (T k).2.1 (T k).2.2.1 ∈ jj_gw)
/-- the same, by a link of the class's own -/
def jj_FP (own : String) (idx ci k : Nat) (ty : FieldType) (fin : Bool) : Prop := ∃ (C : String) (T : u_T) (N : Nat) (t0 : Nat → FieldType) (ref : String), jj_CL ci C T N t0 ∧ k < N ∧ t0 k = ty ∧ (T k).2.2.2 = fin ∧ (fin = true → (T k).1 = own) ∧ Cond.fieldLink own idx ref (T k).2.1 (T k).2.2.1 ∈ jj_gw ∧ (ref = (T k).1 ∨ Cond.sameField ref (T k).1 (T k).2.1 (T k).2.2.1 ∈ jj_gw)
theorem jj_FP.fl {own : String} {idx ci k : Nat} {ty : FieldType} {fin : Bool} (h : jj_FP own idx ci k ty fin) : jj_FL own idx ci k ty fin := by
  obtain ⟨C, T, N, t0, ref, h1, h2, h3, h4, h5, h6, h7⟩ := h
  exact ⟨C, T, N, t0, ref, h1, h2, h3, h4, Or.inl h6, h7⟩
section JJF
variable {p : Program} {l : Launch} {e : Env} {R : Room} {s : State} {m : MethodId} {args : Array Value} {below : List Frame} {meth : Method} {c : Code} {Q : State → Prop} {y : MethodName} {cc : ByteArray} {nL : Nat} {ret : Option FieldType} {tb : jjTab} {D : va_G} {aC : Nat → ClassId} {base : Nat}
variable {pc pc' nx tg idx kc ks mc ms d : Nat} {kv : Int32} {lc lc' : jjLoc} {st st' rest : List Value} {h : jjHp} {a : Nat}
theorem jj_same {own ref o n ds : String} {args : Array Value} {s : State} (hts : ∀ w ∈ jj_gw, w.before args s = true) (h : ref = o ∨ Cond.sameField ref o n ds ∈ jj_gw) : ∀ x, s.fieldFound? o n ds = some x → s.fieldFound? ref n ds = some x := by
  rcases h with rfl | h
  · exact fun x hx => hx
  · exact fun x hx => u_same (hts _ h) x hx
theorem jj_getf (C : jj_C p s m args meth c y cc nL ret tb D aC base) {ci k : Nat} {ty : FieldType} {fin : Bool} {fs : List Value} {v : Value} (hf : jj_look tb pc = some (.getfield idx, nx, tg, kv)) (q : jj_FL y.cls idx ci k ty fin) (ho : h a = some (.inr (ci, fs))) (hv : fs[k]? = some v) (kk : jj_J p l e R s m args below meth c D base nL Q nx lc (v :: st) h kc ks) : jj_J p l e R s m args below meth c D base nL Q pc lc (.ref a :: st) h kc ks := by
  obtain ⟨hx, hb, -, hown, hts, hg, hE, -, -, -⟩ := C
  obtain ⟨a1, a2, -⟩ := jj_good_at hg hf
  subst a2
  obtain ⟨CN, T, N, t0, ref, ⟨hc, hin, hty, hnm⟩, hk, -, -, hlk, hsm⟩ := q
  intro H locs ls hw hS hl
  have hh := hw
  obtain ⟨ws, hP, hD, hi⟩ := hh
  obtain ⟨q0, hq0⟩ := hi a _ ho
  have kk := kk H locs ls hw hS hl
  rcases hlk with hlk | ⟨host, hlk⟩
  · exact va_get hx hb hts hin hown hE.1 hP q0 hq0 hc k hk (hts _ hlk) (jj_same (own := y.cls) hts hsm) hv a1 kk
  · exact va_getN hx hb hts hin hown hE.1 hP q0 hq0 hc k hk (va_Nw.use rfl (hE.2.1 _ hlk)) (jj_same (own := y.cls) hts hsm) hv a1 kk
theorem jj_putf (C : jj_C p s m args meth c y cc nL ret tb D aC base) {ci k : Nat} {ty : FieldType} {fs : List Value} {v : Value} (hf : jj_look tb pc = some (.putfield idx, nx, tg, kv)) (q : jj_FL y.cls idx ci k ty false) (ho : h a = some (.inr (ci, fs))) (hn : narrow ty v = v) (hfit : fits ty v = true) (hlen : k < fs.length) (kk : jj_J p l e R s m args below meth c D base nL Q nx lc st (jj_up h a (.inr (ci, fs.set k v))) kc ks) : jj_J p l e R s m args below meth c D base nL Q pc lc (v :: .ref a :: st) h kc ks := by
  obtain ⟨hx, hb, -, hown, hts, hg, hE, -, -, -⟩ := C
  obtain ⟨a1, a2, -⟩ := jj_good_at hg hf
  subst a2
  obtain ⟨CN, T, N, t0, ref, ⟨hc, hin, hty, hnm⟩, hk, ht, hfn, hlk, hsm⟩ := q
  subst ht
  intro H locs ls hw hS hl
  obtain ⟨ws, hP, hD, hi⟩ := hw
  obtain ⟨q0, hq0⟩ := hi a _ ho
  rcases hlk with hlk | ⟨host, hlk⟩
  · exact va_put hx hb hts hin t0 hty hnm hown hE.1 hP hD hS q0 hq0 hc k hk (hts _ hlk) (jj_same (own := y.cls) hts hsm) hfn (hty k hk) hn hfit hlen a1 (fun H1 locs1 hP1 hD1 hS1 => kk H1 locs1 ls ⟨_, hP1, hD1, jj_set_in (A := jj_A base) hi hq0⟩ hS1 hl)
  · exact va_putN hx hb hts hin t0 hty hnm hown hE.1 hP hD hS q0 hq0 hc k hk (va_Nw.use rfl (hE.2.1 _ hlk)) (jj_same (own := y.cls) hts hsm) hfn (hty k hk) hn hfit hlen a1 (fun H1 locs1 hP1 hD1 hS1 => kk H1 locs1 ls ⟨_, hP1, hD1, jj_set_in (A := jj_A base) hi hq0⟩ hS1 hl)
theorem jj_putF (C : jj_C p s m args meth c y cc nL ret tb D aC base) {ci k : Nat} {ty : FieldType} {fs : List Value} {v : Value} (hf : jj_look tb pc = some (.putfield idx, nx, tg, kv)) (q : jj_FP y.cls idx ci k ty true) (hi0 : y.name = "<init>") (ho : h a = some (.inr (ci, fs))) (hn : narrow ty v = v) (hfit : fits ty v = true) (hlen : k < fs.length) (kk : jj_J p l e R s m args below meth c D base nL Q nx lc st (jj_up h a (.inr (ci, fs.set k v))) kc ks) : jj_J p l e R s m args below meth c D base nL Q pc lc (v :: .ref a :: st) h kc ks := by
  obtain ⟨hx, hb, -, hown, hts, hg, hE, -, hname, -⟩ := C
  obtain ⟨a1, a2, -⟩ := jj_good_at hg hf
  subst a2
  obtain ⟨CN, T, N, t0, ref, ⟨hc, hin, hty, hnm⟩, hk, ht, hfn, hdec, hlk, hsm⟩ := q
  subst ht
  intro H locs ls hw hS hl
  obtain ⟨ws, hP, hD, hi⟩ := hw
  obtain ⟨q0, hq0⟩ := hi a _ ho
  exact va_putF hx hb hts hin t0 hty hnm hown hE.1 hP hD hS q0 hq0 hc k hk (hts _ hlk) (jj_same (own := y.cls) hts hsm) hfn (hname hi0) (hdec rfl) (hty k hk) hn hfit hlen a1 (fun H1 locs1 hP1 hD1 hS1 => kk H1 locs1 ls ⟨_, hP1, hD1, jj_set_in (A := jj_A base) hi hq0⟩ hS1 hl)
/-- a class that a class's constant pool names, to be made -/
def jj_NW (own : String) (idx ci N : Nat) (fs : List Value) : Prop := ∃ (C : String) (T : u_T) (t0 : Nat → FieldType), jj_CL ci C T N t0 ∧ Cond.classLink own idx C ∈ jj_gw ∧ Cond.instantiable C N ∈ jj_gw ∧ Cond.initialized C ∈ jj_gw ∧ ∀ j, j < N → defaultValue (t0 j) = vp_V fs j
theorem jj_new (C : jj_C p s m args meth c y cc nL ret tb D aC base) {ci N : Nat} {fs : List Value} (hf : jj_look tb pc = some (.new idx, nx, tg, kv)) (q : jj_NW y.cls idx ci N fs) (hc : kc + 1 ≤ R.cells) (hd : ks + N ≤ R.slots) (kk : ∀ a, h a = none → jj_J p l e R s m args below meth c D base nL Q nx lc (.ref a :: st) (jj_up h a (.inr (ci, fs))) (kc + 1) (ks + N)) : jj_J p l e R s m args below meth c D base nL Q pc lc st h kc ks := by
  obtain ⟨hx, hb, -, hown, hts, hg, hE, -, -, -⟩ := C
  obtain ⟨a1, a2, -⟩ := jj_good_at hg hf
  subst a2
  obtain ⟨CN, T, t0, ⟨hcl, hin, hty, hnm⟩, w1, w2, w3, hfs⟩ := q
  intro H locs ls hw hS hl
  obtain ⟨ws, hP, hD, hi⟩ := hw
  exact va_new hx hb hts hin t0 hty hown (hts _ w1) (hts _ w2) (hts _ w3) hE.1 hP hD hS (fun q hq => Nat.le_trans hE.2.2.2.2.2.2.1 hq) hcl hfs hc hd a1 (fun q H1 hP1 hD1 hS1 => kk q (jj_fresh hi hD1) H1 locs ls ⟨_, hP1, hD1, jj_push_in hi⟩ hS1 hl)
end JJF
/-! arrays -/
section JJA
variable {p : Program} {l : Launch} {e : Env} {R : Room} {s : State} {m : MethodId} {args : Array Value} {below : List Frame} {meth : Method} {c : Code} {Q : State → Prop} {y : MethodName} {cc : ByteArray} {nL : Nat} {ret : Option FieldType} {tb : jjTab} {D : va_G} {aC : Nat → ClassId} {base : Nat}
variable {pc pc' nx tg idx kc ks mc ms d : Nat} {kv : Int32} {lc lc' : jjLoc} {st st' rest : List Value} {h : jjHp} {a : Nat}

theorem jj_iald (C : jj_C p s m args meth c y cc nL ret tb D aC base) {n j : Nat} {i : Int32} {f : Nat → Int32} (hf : jj_look tb pc = some (.iaload, nx, tg, kv)) (ho : h a = some (.inl (aC 0, n, .inl f))) (hj : i = nI j) (hlt : j < n) (hn : n < 2 ^ 31) (kk : jj_J p l e R s m args below meth c D base nL Q nx lc (.int (f j) :: st) h kc ks) : jj_J p l e R s m args below meth c D base nL Q pc lc (.int i :: .ref a :: st) h kc ks := by
  obtain ⟨hx, hb, -, hown, hts, hg, hE, -, -, -⟩ := C
  obtain ⟨a1, a2, -⟩ := jj_good_at hg hf
  subst a2
  subst hj
  intro H locs ls hw hS hl
  have hh := hw
  obtain ⟨ws, hP, hD, hi⟩ := hh
  obtain ⟨q0, hq0⟩ := hi a _ ho
  have hin : vp_in (nI j) n := vp_in_nI hlt hn
  have hcl : (nI j).toNatClampNeg = j := nI_clamp (Nat.lt_trans hlt hn)
  exact va_iald hx hb hE.1 hP q0 0 hq0 rfl hin a1 (by rw [hcl]; exact kk H locs ls hw hS hl)
theorem jj_zald (C : jj_C p s m args meth c y cc nL ret tb D aC base) {n j : Nat} {i : Int32} {f : Nat → Int32} (hf : jj_look tb pc = some (.baload, nx, tg, kv)) (ho : h a = some (.inl (aC 1, n, .inl f))) (hj : i = nI j) (hlt : j < n) (hn : n < 2 ^ 31) (kk : jj_J p l e R s m args below meth c D base nL Q nx lc (.int (f j) :: st) h kc ks) : jj_J p l e R s m args below meth c D base nL Q pc lc (.int i :: .ref a :: st) h kc ks := by
  obtain ⟨hx, hb, -, hown, hts, hg, hE, -, -, -⟩ := C
  obtain ⟨a1, a2, -⟩ := jj_good_at hg hf
  subst a2
  subst hj
  intro H locs ls hw hS hl
  have hh := hw
  obtain ⟨ws, hP, hD, hi⟩ := hh
  obtain ⟨q0, hq0⟩ := hi a _ ho
  have hin : vp_in (nI j) n := vp_in_nI hlt hn
  have hcl : (nI j).toNatClampNeg = j := nI_clamp (Nat.lt_trans hlt hn)
  exact va_zald hx hb hE.1 hP q0 1 hq0 rfl hin a1 (by rw [hcl]; exact kk H locs ls hw hS hl)
theorem jj_cald (C : jj_C p s m args meth c y cc nL ret tb D aC base) {n j : Nat} {i : Int32} {f : Nat → Int32} (hf : jj_look tb pc = some (.caload, nx, tg, kv)) (ho : h a = some (.inl (aC 2, n, .inl f))) (hj : i = nI j) (hlt : j < n) (hn : n < 2 ^ 31) (kk : jj_J p l e R s m args below meth c D base nL Q nx lc (.int (f j) :: st) h kc ks) : jj_J p l e R s m args below meth c D base nL Q pc lc (.int i :: .ref a :: st) h kc ks := by
  obtain ⟨hx, hb, -, hown, hts, hg, hE, -, -, -⟩ := C
  obtain ⟨a1, a2, -⟩ := jj_good_at hg hf
  subst a2
  subst hj
  intro H locs ls hw hS hl
  have hh := hw
  obtain ⟨ws, hP, hD, hi⟩ := hh
  obtain ⟨q0, hq0⟩ := hi a _ ho
  have hin : vp_in (nI j) n := vp_in_nI hlt hn
  have hcl : (nI j).toNatClampNeg = j := nI_clamp (Nat.lt_trans hlt hn)
  exact va_cald hx hb hE.1 hP q0 2 hq0 rfl hin a1 (by rw [hcl]; exact kk H locs ls hw hS hl)
theorem jj_lald (C : jj_C p s m args meth c y cc nL ret tb D aC base) {n j : Nat} {i : Int32} {f : Nat → Int64} (hf : jj_look tb pc = some (.laload, nx, tg, kv)) (ho : h a = some (.inl (aC 3, n, .inr (.inl f)))) (hj : i = nI j) (hlt : j < n) (hn : n < 2 ^ 31) (kk : jj_J p l e R s m args below meth c D base nL Q nx lc (.long (f j) :: st) h kc ks) : jj_J p l e R s m args below meth c D base nL Q pc lc (.int i :: .ref a :: st) h kc ks := by
  obtain ⟨hx, hb, -, hown, hts, hg, hE, -, -, -⟩ := C
  obtain ⟨a1, a2, -⟩ := jj_good_at hg hf
  subst a2
  subst hj
  intro H locs ls hw hS hl
  have hh := hw
  obtain ⟨ws, hP, hD, hi⟩ := hh
  obtain ⟨q0, hq0⟩ := hi a _ ho
  have hin : vp_in (nI j) n := vp_in_nI hlt hn
  have hcl : (nI j).toNatClampNeg = j := nI_clamp (Nat.lt_trans hlt hn)
  exact va_lald hx hb hE.1 hP q0 3 hq0 rfl hin a1 (by rw [hcl]; exact kk H locs ls hw hS hl)
theorem jj_bald (C : jj_C p s m args meth c y cc nL ret tb D aC base) {n j : Nat} {i : Int32} {f : Nat → Int32} (hf : jj_look tb pc = some (.baload, nx, tg, kv)) (ho : h a = some (.inl (aC 4, n, .inl f))) (hj : i = nI j) (hlt : j < n) (hn : n < 2 ^ 31) (kk : jj_J p l e R s m args below meth c D base nL Q nx lc (.int (f j) :: st) h kc ks) : jj_J p l e R s m args below meth c D base nL Q pc lc (.int i :: .ref a :: st) h kc ks := by
  obtain ⟨hx, hb, -, hown, hts, hg, hE, -, -, -⟩ := C
  obtain ⟨a1, a2, -⟩ := jj_good_at hg hf
  subst a2
  subst hj
  intro H locs ls hw hS hl
  have hh := hw
  obtain ⟨ws, hP, hD, hi⟩ := hh
  obtain ⟨q0, hq0⟩ := hi a _ ho
  have hin : vp_in (nI j) n := vp_in_nI hlt hn
  have hcl : (nI j).toNatClampNeg = j := nI_clamp (Nat.lt_trans hlt hn)
  exact va_bald hx hb hE.1 hP q0 4 hq0 rfl hin a1 (by rw [hcl]; exact kk H locs ls hw hS hl)
theorem jj_iast (C : jj_C p s m args meth c y cc nL ret tb D aC base) {n j : Nat} {i : Int32} {x : Int32} {f : Nat → Int32} (hf : jj_look tb pc = some (.iastore, nx, tg, kv)) (ho : h a = some (.inl (aC 0, n, .inl f))) (hj : i = nI j) (hlt : j < n) (hn : n < 2 ^ 31) (kk : jj_J p l e R s m args below meth c D base nL Q nx lc st (jj_up h a (.inl (aC 0, n, .inl (upd f j x)))) kc ks) : jj_J p l e R s m args below meth c D base nL Q pc lc (.int x :: .int i :: .ref a :: st) h kc ks := by
  obtain ⟨hx, hb, -, hown, hts, hg, hE, -, -, -⟩ := C
  obtain ⟨a1, a2, -⟩ := jj_good_at hg hf
  subst a2
  subst hj
  intro H locs ls hw hS hl
  have hh := hw
  obtain ⟨ws, hP, hD, hi⟩ := hh
  obtain ⟨q0, hq0⟩ := hi a _ ho
  have hin : vp_in (nI j) n := vp_in_nI hlt hn
  have hcl : (nI j).toNatClampNeg = j := nI_clamp (Nat.lt_trans hlt hn)
  refine va_iast hx hb hE.1 hP hD hS q0 0 hq0 rfl hin a1 (fun H1 locs1 hP1 hD1 hS1 => ?_)
  rw [hcl] at hP1 hD1
  exact kk H1 locs1 ls ⟨_, hP1, hD1, jj_set_in (A := jj_A base) hi hq0⟩ hS1 hl
theorem jj_zast (C : jj_C p s m args meth c y cc nL ret tb D aC base) {n j : Nat} {i : Int32} {x : Int32} {f : Nat → Int32} (hf : jj_look tb pc = some (.bastore, nx, tg, kv)) (ho : h a = some (.inl (aC 1, n, .inl f))) (hj : i = nI j) (hlt : j < n) (hn : n < 2 ^ 31) (kk : jj_J p l e R s m args below meth c D base nL Q nx lc st (jj_up h a (.inl (aC 1, n, .inl (upd f j (vp_nar .boolean x))))) kc ks) : jj_J p l e R s m args below meth c D base nL Q pc lc (.int x :: .int i :: .ref a :: st) h kc ks := by
  obtain ⟨hx, hb, -, hown, hts, hg, hE, -, -, -⟩ := C
  obtain ⟨a1, a2, -⟩ := jj_good_at hg hf
  subst a2
  subst hj
  intro H locs ls hw hS hl
  have hh := hw
  obtain ⟨ws, hP, hD, hi⟩ := hh
  obtain ⟨q0, hq0⟩ := hi a _ ho
  have hin : vp_in (nI j) n := vp_in_nI hlt hn
  have hcl : (nI j).toNatClampNeg = j := nI_clamp (Nat.lt_trans hlt hn)
  refine va_zast hx hb hE.1 hP hD hS q0 1 hq0 rfl hin a1 (fun H1 locs1 hP1 hD1 hS1 => ?_)
  rw [hcl] at hP1 hD1
  exact kk H1 locs1 ls ⟨_, hP1, hD1, jj_set_in (A := jj_A base) hi hq0⟩ hS1 hl
theorem jj_cast (C : jj_C p s m args meth c y cc nL ret tb D aC base) {n j : Nat} {i : Int32} {x : Int32} {f : Nat → Int32} (hf : jj_look tb pc = some (.castore, nx, tg, kv)) (ho : h a = some (.inl (aC 2, n, .inl f))) (hj : i = nI j) (hlt : j < n) (hn : n < 2 ^ 31) (kk : jj_J p l e R s m args below meth c D base nL Q nx lc st (jj_up h a (.inl (aC 2, n, .inl (upd f j (vp_nar .char x))))) kc ks) : jj_J p l e R s m args below meth c D base nL Q pc lc (.int x :: .int i :: .ref a :: st) h kc ks := by
  obtain ⟨hx, hb, -, hown, hts, hg, hE, -, -, -⟩ := C
  obtain ⟨a1, a2, -⟩ := jj_good_at hg hf
  subst a2
  subst hj
  intro H locs ls hw hS hl
  have hh := hw
  obtain ⟨ws, hP, hD, hi⟩ := hh
  obtain ⟨q0, hq0⟩ := hi a _ ho
  have hin : vp_in (nI j) n := vp_in_nI hlt hn
  have hcl : (nI j).toNatClampNeg = j := nI_clamp (Nat.lt_trans hlt hn)
  refine va_cast hx hb hE.1 hP hD hS q0 2 hq0 rfl hin a1 (fun H1 locs1 hP1 hD1 hS1 => ?_)
  rw [hcl] at hP1 hD1
  exact kk H1 locs1 ls ⟨_, hP1, hD1, jj_set_in (A := jj_A base) hi hq0⟩ hS1 hl
theorem jj_last (C : jj_C p s m args meth c y cc nL ret tb D aC base) {n j : Nat} {i : Int32} {x : Int64} {f : Nat → Int64} (hf : jj_look tb pc = some (.lastore, nx, tg, kv)) (ho : h a = some (.inl (aC 3, n, .inr (.inl f)))) (hj : i = nI j) (hlt : j < n) (hn : n < 2 ^ 31) (kk : jj_J p l e R s m args below meth c D base nL Q nx lc st (jj_up h a (.inl (aC 3, n, .inr (.inl (vp_updL f j x))))) kc ks) : jj_J p l e R s m args below meth c D base nL Q pc lc (.long x :: .int i :: .ref a :: st) h kc ks := by
  obtain ⟨hx, hb, -, hown, hts, hg, hE, -, -, -⟩ := C
  obtain ⟨a1, a2, -⟩ := jj_good_at hg hf
  subst a2
  subst hj
  intro H locs ls hw hS hl
  have hh := hw
  obtain ⟨ws, hP, hD, hi⟩ := hh
  obtain ⟨q0, hq0⟩ := hi a _ ho
  have hin : vp_in (nI j) n := vp_in_nI hlt hn
  have hcl : (nI j).toNatClampNeg = j := nI_clamp (Nat.lt_trans hlt hn)
  refine va_last hx hb hE.1 hP hD hS q0 3 hq0 rfl hin a1 (fun H1 locs1 hP1 hD1 hS1 => ?_)
  rw [hcl] at hP1 hD1
  exact kk H1 locs1 ls ⟨_, hP1, hD1, jj_set_in (A := jj_A base) hi hq0⟩ hS1 hl
theorem jj_bast (C : jj_C p s m args meth c y cc nL ret tb D aC base) {n j : Nat} {i : Int32} {x : Int32} {f : Nat → Int32} (hf : jj_look tb pc = some (.bastore, nx, tg, kv)) (ho : h a = some (.inl (aC 4, n, .inl f))) (hj : i = nI j) (hlt : j < n) (hn : n < 2 ^ 31) (kk : jj_J p l e R s m args below meth c D base nL Q nx lc st (jj_up h a (.inl (aC 4, n, .inl (upd f j (vp_nar .byte x))))) kc ks) : jj_J p l e R s m args below meth c D base nL Q pc lc (.int x :: .int i :: .ref a :: st) h kc ks := by
  obtain ⟨hx, hb, -, hown, hts, hg, hE, -, -, -⟩ := C
  obtain ⟨a1, a2, -⟩ := jj_good_at hg hf
  subst a2
  subst hj
  intro H locs ls hw hS hl
  have hh := hw
  obtain ⟨ws, hP, hD, hi⟩ := hh
  obtain ⟨q0, hq0⟩ := hi a _ ho
  have hin : vp_in (nI j) n := vp_in_nI hlt hn
  have hcl : (nI j).toNatClampNeg = j := nI_clamp (Nat.lt_trans hlt hn)
  refine va_bast hx hb hE.1 hP hD hS q0 4 hq0 rfl hin a1 (fun H1 locs1 hP1 hD1 hS1 => ?_)
  rw [hcl] at hP1 hD1
  exact kk H1 locs1 ls ⟨_, hP1, hD1, jj_set_in (A := jj_A base) hi hq0⟩ hS1 hl
theorem jj_aald (C : jj_C p s m args meth c y cc nL ret tb D aC base) (t0 : Nat) {cA : ClassId} {CN : String} {n j : Nat} {i : Int32} {f : Nat → Option Nat} (hf : jj_look tb pc = some (.aaload, nx, tg, kv)) (ho : h a = some (.inl (cA, n, .inr (.inr (.inr (.inr f)))))) (ht : (jj_tys aC)[t0]? = some (cA, .object CN)) (hj : i = nI j) (hlt : j < n) (hn : n < 2 ^ 31) (kk : jj_J p l e R s m args below meth c D base nL Q nx lc (va_rf (f j) :: st) h kc ks) : jj_J p l e R s m args below meth c D base nL Q pc lc (.int i :: .ref a :: st) h kc ks := by
  obtain ⟨hx, hb, -, hown, hts, hg, hE, -, -, -⟩ := C
  obtain ⟨a1, a2, -⟩ := jj_good_at hg hf
  subst a2
  subst hj
  intro H locs ls hw hS hl
  have hh := hw
  obtain ⟨ws, hP, hD, hi⟩ := hh
  obtain ⟨q0, hq0⟩ := hi a _ ho
  have hin : vp_in (nI j) n := vp_in_nI hlt hn
  have hcl : (nI j).toNatClampNeg = j := nI_clamp (Nat.lt_trans hlt hn)
  exact va_aldq hx hb hE.1 hP q0 t0 hq0 ht hin a1 (by rw [hcl]; exact kk H locs ls hw hS hl)
theorem jj_aast (C : jj_C p s m args meth c y cc nL ret tb D aC base) (t0 : Nat) {cA : ClassId} {r : vw_C} {n j v ci : Nat} {vs : List Value} {i : Int32} {f : Nat → Option Nat} (hf : jj_look tb pc = some (.aastore, nx, tg, kv)) (ho : h a = some (.inl (cA, n, .inr (.inr (.inr (.inr f)))))) (ht : (jj_tys aC)[t0]? = some (cA, .object r.1)) (hv : h v = some (.inr (ci, vs))) (hcl0 : jj_cl[ci]? = some r) (hj : i = nI j) (hlt : j < n) (hn : n < 2 ^ 31) (kk : jj_J p l e R s m args below meth c D base nL Q nx lc st (jj_up h a (.inl (cA, n, .inr (.inr (.inr (.inr (va_up f j (some v)))))))) kc ks) : jj_J p l e R s m args below meth c D base nL Q pc lc (.ref v :: .int i :: .ref a :: st) h kc ks := by
  obtain ⟨hx, hb, -, hown, hts, hg, hE, -, -, -⟩ := C
  obtain ⟨a1, a2, -⟩ := jj_good_at hg hf
  subst a2
  subst hj
  intro H locs ls hw hS hl
  have hh := hw
  obtain ⟨ws, hP, hD, hi⟩ := hh
  obtain ⟨q0, hq0⟩ := hi a _ ho
  have hin : vp_in (nI j) n := vp_in_nI hlt hn
  have hcl : (nI j).toNatClampNeg = j := nI_clamp (Nat.lt_trans hlt hn)
  obtain ⟨qk, hqk⟩ := hi v _ hv
  refine va_astq hx hb hE.1 hP hD hS q0 t0 qk ci hq0 ht hqk hcl0 hin a1 (fun H1 locs1 hP1 hD1 hS1 => ?_)
  rw [hcl] at hP1 hD1
  exact kk H1 locs1 ls ⟨_, hP1, hD1, jj_set_in (A := jj_A base) hi hq0⟩ hS1 hl
theorem jj_aastN (C : jj_C p s m args meth c y cc nL ret tb D aC base) (t0 : Nat) {cA : ClassId} {CN : String} {n j : Nat} {i : Int32} {f : Nat → Option Nat} (hf : jj_look tb pc = some (.aastore, nx, tg, kv)) (ho : h a = some (.inl (cA, n, .inr (.inr (.inr (.inr f)))))) (ht : (jj_tys aC)[t0]? = some (cA, .object CN)) (hj : i = nI j) (hlt : j < n) (hn : n < 2 ^ 31) (kk : jj_J p l e R s m args below meth c D base nL Q nx lc st (jj_up h a (.inl (cA, n, .inr (.inr (.inr (.inr (va_up f j none))))))) kc ks) : jj_J p l e R s m args below meth c D base nL Q pc lc (.null :: .int i :: .ref a :: st) h kc ks := by
  obtain ⟨hx, hb, -, hown, hts, hg, hE, -, -, -⟩ := C
  obtain ⟨a1, a2, -⟩ := jj_good_at hg hf
  subst a2
  subst hj
  intro H locs ls hw hS hl
  have hh := hw
  obtain ⟨ws, hP, hD, hi⟩ := hh
  obtain ⟨q0, hq0⟩ := hi a _ ho
  have hin : vp_in (nI j) n := vp_in_nI hlt hn
  have hcl : (nI j).toNatClampNeg = j := nI_clamp (Nat.lt_trans hlt hn)
  refine va_astqN hx hb hE.1 hP hD hS q0 t0 hq0 ht hin a1 (fun H1 locs1 hP1 hD1 hS1 => ?_)
  rw [hcl] at hP1 hD1
  exact kk H1 locs1 ls ⟨_, hP1, hD1, jj_set_in (A := jj_A base) hi hq0⟩ hS1 hl
theorem jj_alen (C : jj_C p s m args meth c y cc nL ret tb D aC base) (t0 : Nat) {cA : ClassId} {x : vp_A} {ty : FieldType} (hf : jj_look tb pc = some (.arraylength, nx, tg, kv)) (ho : h a = some (.inl (cA, x))) (ht : (jj_tys aC)[t0]? = some (cA, ty)) (kk : jj_J p l e R s m args below meth c D base nL Q nx lc (.int (nI x.1) :: st) h kc ks) : jj_J p l e R s m args below meth c D base nL Q pc lc (.ref a :: st) h kc ks := by
  obtain ⟨hx, hb, -, hown, hts, hg, hE, -, -, -⟩ := C
  obtain ⟨a1, a2, -⟩ := jj_good_at hg hf
  subst a2
  intro H locs ls hw hS hl
  have hh := hw
  obtain ⟨ws, hP, hD, hi⟩ := hh
  obtain ⟨q0, hq0⟩ := hi a _ ho
  exact va_alen hx hb hE.1 hP q0 t0 hq0 ht rfl a1 (kk H locs ls hw hS hl)
/-- the array class of a type is the one that the tables name -/
theorem jj_arr_eq {s : State} (hK : va_K D jj_cl (jj_tys aC) s) {t0 : Nat} {cA cB : ClassId} {ty : FieldType} (ht : (jj_tys aC)[t0]? = some (cA, ty)) {tys : List (ClassId × FieldType)} (hK2 : va_K D jj_cl (tys ++ [(cB, ty)]) s) : cB = cA := by
  have h1 := (hK.2 t0 _ ht).2
  have h2 := (hK2.2 tys.length (cB, ty) (by simp)).2
  cases ty with
  | object C =>
    obtain ⟨_, _, -, -, -, e1⟩ := h1
    obtain ⟨_, _, -, -, -, e2⟩ := h2
    exact Option.some.inj (e2.symm.trans e1)
  | _ => exact Option.some.inj (Eq.trans (Eq.symm h2) h1)
theorem jj_newa (C : jj_C p s m args meth c y cc nL ret tb D aC base) (t0 : Nat) {cA : ClassId} {at0 : ArrayType} {ty : FieldType} {n : Int32} {N : Nat} {a0 : vp_A} (hf : jj_look tb pc = some (.newarray at0, nx, tg, kv)) (hw0 : Cond.arrayClass (newarray.typeOf at0) ∈ jj_gw) (hty : newarray.typeOf at0 = ty) (ht : (jj_tys aC)[t0]? = some (cA, ty)) (ha : ∀ cA : ClassId, vp_cell cA a0 = arrV cA N (fun _ => defaultValue ty)) (hN : n = nI N) (hb0 : N ≤ 65536) (hc : kc + 1 ≤ R.cells) (hd : ks + N ≤ R.slots) (kk : ∀ a, h a = none → jj_J p l e R s m args below meth c D base nL Q nx lc (.ref a :: st) (jj_up h a (.inl (cA, a0))) (kc + 1) (ks + N)) : jj_J p l e R s m args below meth c D base nL Q pc lc (.int n :: st) h kc ks := by
  obtain ⟨hx, hb, -, hown, hts, hg, hE, -, -, -⟩ := C
  obtain ⟨a1, a2, -⟩ := jj_good_at hg hf
  subst a2
  subst hN
  intro H locs ls hw hS hl
  obtain ⟨ws, hP, hD, hi⟩ := hw
  have hcb : componentBytes ty ≤ 8 := by cases ty <;> exact Nat.le_of_ble_eq_true rfl
  refine va_newa hx hb (hts _ hw0) hty hE.1 hP hD hS (fun q hq => Nat.le_trans hE.2.2.2.2.2.2.1 hq) ha (nI_pos (by omega)) (nI_clamp (by omega)) (Nat.le_trans (Nat.mul_le_mul hb0 hcb) (by decide)) hc hd a1 (fun q cB H1 hK1 hP1 hD1 hS1 => ?_)
  have he := jj_arr_eq hE.1 ht hK1
  subst he
  exact kk q (jj_fresh hi hD1) H1 locs ls ⟨_, hP1, hD1, jj_push_in hi⟩ hS1 hl
theorem jj_newq (C : jj_C p s m args meth c y cc nL ret tb D aC base) (t0 : Nat) {cA : ClassId} {CN : String} {n : Int32} {N : Nat} (hf : jj_look tb pc = some (.anewarray idx, nx, tg, kv)) (hw0 : Cond.classLink y.cls idx CN ∈ jj_gw) (hao : CN ∈ jj_ao) (ht : (jj_tys aC)[t0]? = some (cA, .object CN)) (hN : n = nI N) (hb0 : N ≤ 65536) (hc : kc + 1 ≤ R.cells) (hd : ks + N ≤ R.slots) (kk : ∀ a, h a = none → jj_J p l e R s m args below meth c D base nL Q nx lc (.ref a :: st) (jj_up h a (.inl (cA, N, .inr (.inr (.inr (.inr (fun _ => none))))))) (kc + 1) (ks + N)) : jj_J p l e R s m args below meth c D base nL Q pc lc (.int n :: st) h kc ks := by
  obtain ⟨hx, hb, -, hown, hts, hg, hE, -, -, -⟩ := C
  obtain ⟨a1, a2, -⟩ := jj_good_at hg hf
  subst a2
  subst hN
  intro H locs ls hw hS hl
  obtain ⟨ws, hP, hD, hi⟩ := hw
  refine va_newq hx hb hown (hts _ hw0) (hE.2.2.2.2.1 _ hao) hE.1 hP hD hS (fun q hq => Nat.le_trans hE.2.2.2.2.2.2.1 hq) (nI_pos (by omega)) (nI_clamp (by omega)) (by omega) hc hd a1 (fun q cB H1 hK1 hP1 hD1 hS1 => ?_)
  have he := jj_arr_eq hE.1 ht hK1
  subst he
  exact kk q (jj_fresh hi hD1) H1 locs ls ⟨_, hP1, hD1, jj_push_in hi⟩ hS1 hl
end JJA
/-! calls -/
section JJC
variable {p : Program} {l : Launch} {e : Env} {R : Room} {s : State} {m : MethodId} {args : Array Value} {below : List Frame} {meth : Method} {c : Code} {Q : State → Prop} {y : MethodName} {cc : ByteArray} {nL : Nat} {ret : Option FieldType} {tb : jjTab} {D : va_G} {aC : Nat → ClassId} {base : Nat}
variable {pc pc' nx tg idx kc ks mc ms d : Nat} {kv : Int32} {lc lc' : jjLoc} {st st' rest : List Value} {h : jjHp} {a : Nat}
variable {y1 : MethodName} {b1 : ByteArray} {n1 d1 mc1 ms1 np : Nat} {r1 : Option FieldType} {As : List Value} {P1 : Option Value → jjHp → Prop}
theorem jj_cont {a0 : Array Value} (hr : ∀ (H : Heap) (locs : List Loc) (ls : Array Slot), jj_W D base h H → va_S (jj_A base) s.heap H locs → lv_has ls nL lc → va_Run p l e R s m args below meth c H locs kc ks mc1 ms1 (F0 m pc ls st) rest (jj_Q D base P1 a0) (jj_A base))
    (kk : ∀ (r : Option Value) (h' : jjHp), P1 r h' → jj_J p l e R s m args below meth c D base nL Q (pc + 3) lc (r.toList ++ rest) h' (kc + mc1) (ks + ms1)) : jj_J p l e R s m args below meth c D base nL Q pc lc st h kc ks := by
  intro H locs ls hw hS hl T hT X
  obtain ⟨v, st₀, t, T', L, h0, X', hL, e1, e2, ⟨⟨r, h', hv, hp, hw'⟩, hz, hk⟩, stp⟩ := hr H locs ls hw hS hl T hT X
  cases hv
  rw [h0] at hz hk
  obtain ⟨t2, b1, b2⟩ := kk v h' hp T'.heap (locs ++ L) ls (by rw [e1]; exact hw') ⟨Nat.le_trans hS.1 (by rw [e1]; exact hz), fun q g1 g2 => by rw [e1, hk q (Nat.lt_of_lt_of_le g1 hS.1) g2]; exact hS.2.1 q g1 g2, fun q hq => by
    rcases List.mem_append.mp hq with g | g
    · exact hS.2.2 q g
    · exact hL q g⟩ hl T' rfl X'
  exact ⟨t2, stp t2 b1, b2⟩
/-- what a call needs of the tables: its link (plain, or of a nest mate), the code that it reaches -/
def jj_ML (own : String) (idx : Nat) (y1 : MethodName) (b1 : ByteArray) (n1 : Nat) (r1 : Option FieldType) (np : Nat) : Prop := (Cond.methodLink own idx y1 ∈ jj_gw ∨ ∃ host : String, (own, idx, y1, host) ∈ jj_nM) ∧ Cond.code y1 b1 n1 r1 ∈ jj_gw ∧ Cond.initialized y1.cls ∈ jj_gw ∧ (y1.cls ≠ "java/lang/invoke/MethodHandle" ∧ y1.cls ≠ "java/lang/invoke/VarHandle" ∧ (parseMethodDescriptor y1.desc).map (fun d => d.parameters.length) = some np)
theorem jj_pre {H : Heap} {locs : List Loc} (hE : jj_E D aC base s) (hw : jj_W D base h H) (hS : va_S (jj_A base) s.heap H locs) : ∀ U : State, U.heap = H → s.WarmedH U.vm → va_Pc As (fun U => jj_E D aC base U ∧ jj_W D base h U.heap) As.toArray U :=
  fun U hU hW => ⟨rfl, hE.moved hW (by rw [hU]; exact hS.1) (fun q g1 g2 => by rw [hU]; exact hS.2.1 q g1 g2), by rw [hU]; exact hw⟩
theorem jj_callS (C : jj_C p s m args meth c y cc nL ret tb D aC base) (hf : jj_look tb pc = some (.invokestatic idx, nx, tg, kv)) (q : jj_ML y.cls idx y1 b1 n1 r1 np) (hs : Cond.static y1 ∈ jj_gw) (hM : jj_Ct l D aC base y1 b1 n1 r1 d1 mc1 ms1 As h P1)
    (hst : st = As.reverse ++ rest) (hn : As.length = np) (hR : d1 + 1 ≤ R.frames ∧ 8 + (n1 + 11) + 64 * d1 ≤ R.locals) (hc : kc + mc1 ≤ R.cells) (hd : ks + ms1 ≤ R.slots) (hW : (rest.map fun v => v.category).sum ≤ 8)
    (kk : ∀ (r : Option Value) (h' : jjHp), P1 r h' → jj_J p l e R s m args below meth c D base nL Q nx lc (r.toList ++ rest) h' (kc + mc1) (ks + ms1)) : jj_J p l e R s m args below meth c D base nL Q pc lc st h kc ks := by
  obtain ⟨hx, hb, hml, hown, hts, hg, hE, -, -, -⟩ := C
  obtain ⟨a1, a2, -⟩ := jj_good_at hg hf
  subst a2
  obtain ⟨hlk, hcd, hin, hdd⟩ := q
  refine jj_cont (a0 := As.toArray) (fun H locs ls hw hS hl => ?_) kk
  rcases hlk with hlk | ⟨host, hlk⟩
  · exact va_runS ⟨hx, hb, hml, hown, hts⟩ hM ⟨callB_of np hts (jj_gw_in hcd) rfl rfl rfl (hts _ hin) (hts _ hlk) hdd hR, hts _ hs⟩ ⟨jj_blind, jj_pre hE hw hS⟩ rfl hn hl.1 hst (lv_room hW) a1 ⟨hc, hd⟩
  · exact va_runSN ⟨hx, hb, hml, hown, hts⟩ hM ⟨va_cnB np hts (jj_gw_in hcd) rfl rfl rfl (hE.2.2.1 _ hlk) (hts _ hin) hdd hR, hts _ hs, trivial⟩ ⟨jj_blind, jj_pre hE hw hS⟩ rfl hn hl.1 hst (lv_room hW) a1 ⟨hc, hd⟩
theorem jj_callI (C : jj_C p s m args meth c y cc nL ret tb D aC base) (hf : jj_look tb pc = some (.invokespecial idx, nx, tg, kv)) (q : jj_ML y.cls idx y1 b1 n1 none np) (hs : Cond.instanceMethod y1 ∈ jj_gw) (hi : y1.name = "<init>") (hM : jj_Ct l D aC base y1 b1 n1 none d1 mc1 ms1 (.ref a :: As) h P1)
    (hst : st = As.reverse ++ .ref a :: rest) (hn : As.length = np) (hR : d1 + 1 ≤ R.frames ∧ 8 + (n1 + 11) + 64 * d1 ≤ R.locals) (hc : kc + mc1 ≤ R.cells) (hd : ks + ms1 ≤ R.slots) (hW : (rest.map fun v => v.category).sum ≤ 8)
    (kk : ∀ (r : Option Value) (h' : jjHp), P1 r h' → jj_J p l e R s m args below meth c D base nL Q nx lc (r.toList ++ rest) h' (kc + mc1) (ks + ms1)) : jj_J p l e R s m args below meth c D base nL Q pc lc st h kc ks := by
  obtain ⟨hx, hb, hml, hown, hts, hg, hE, -, -, -⟩ := C
  obtain ⟨a1, a2, -⟩ := jj_good_at hg hf
  subst a2
  obtain ⟨hlk, hcd, hin, hdd⟩ := q
  refine jj_cont (a0 := (Value.ref a :: As).toArray) (fun H locs ls hw hS hl => ?_) kk
  rcases hlk with hlk | ⟨host, hlk⟩
  · exact va_runI ⟨hx, hb, hml, hown, hts⟩ hM ⟨callB_of np hts (jj_gw_in hcd) rfl rfl rfl (hts _ hin) (hts _ hlk) hdd hR, hi, hts _ hs⟩ ⟨jj_blind, jj_pre hE hw hS⟩ rfl hn hl.1 hst (lv_room hW) a1 ⟨hc, hd⟩
  · exact va_runIN ⟨hx, hb, hml, hown, hts⟩ hM ⟨va_cnB np hts (jj_gw_in hcd) rfl rfl rfl (hE.2.2.1 _ hlk) (hts _ hin) hdd hR, hi, hts _ hs⟩ ⟨jj_blind, jj_pre hE hw hS⟩ rfl hn hl.1 hst (lv_room hW) a1 ⟨hc, hd⟩
theorem jj_recv {H : Heap} {ci : Nat} {fs : List Value} {r : vw_C} (hE : jj_E D aC base s) (hw : jj_W D base h H) (ho : h a = some (.inr (ci, fs))) (hc : jj_cl[ci]? = some r) : ∃ cell : Cell, H[a]? = some cell ∧ cell.vm.isStatics = false ∧ s.vm.findClass r.1 = some cell.cls := by
  obtain ⟨ws, hP, hD, hi⟩ := hw
  obtain ⟨q0, hq0⟩ := hi a _ ho
  exact va_recv hE.1 hP hc hq0
/-- the receiver's class selects the method itself -/
def jj_SEL (C : String) (y : MethodName) : Prop := ∀ (args : Array Value) (s : State), (∀ w ∈ jj_gw, w.before args s = true) → (Cond.selects C y y).before args s = true
theorem jj_sel_priv {CN : String} {y0 y : MethodName} {args : Array Value} {s : State} (hn : y.cls ≠ "java/lang/invoke/MethodHandle" ∧ y.cls ≠ "java/lang/invoke/VarHandle") (h0 : (Cond.selects CN y0 y0).before args s = true) (hc : y0.cls = y.cls) (hpriv : (Cond.privateMethod y).before args s = true) (hinst : (Cond.instanceMethod y).before args s = true) : (Cond.selects CN y y).before args s = true := by
  obtain ⟨c, r, m0, q1, q2, q3, q4, mk0, q5, q6⟩ := Cond.selects_spec h0
  obtain ⟨mk, methM, hnamed, hmethM, -, -⟩ := Cond.instanceMethod_spec hinst
  have hfound : s.methodFound? y.cls y.name y.desc = some mk := State.methodFound?_of_named hnamed hn
  have e1 : m0.cls = mk.cls := by
    have a1 := findClass_of_methodNamed q3
    have a2 := findClass_of_methodNamed hnamed
    rw [hc] at a1
    exact Option.some.inj (a1.symm.trans a2)
  have hsel : selectMethod {} s.vm c mk = .method mk := selectMethod_private hmethM (Cond.privateMethod_at hpriv mk methM hnamed hmethM)
  rw [e1] at q5
  simp only [Cond.before, Cond.holds, Cond.value, q1, hfound, hnamed, hsel, q5]
  simp; exact q6
theorem jj_callVg (C : jj_C p s m args meth c y cc nL ret tb D aC base) (hf : jj_look tb pc = some (.invokevirtual idx, nx, tg, kv)) (q : jj_ML y.cls idx y1 b1 n1 r1 np) (hs : Cond.instanceMethod y1 ∈ jj_gw) {CN : String} (hrv : ∀ (H : Heap) (locs : List Loc), jj_W D base h H → va_S (jj_A base) s.heap H locs → ∃ cell : Cell, H[a]? = some cell ∧ cell.vm.isStatics = false ∧ s.vm.findClass CN = some cell.cls) (hsel : jj_SEL CN y1) (hM : jj_Ct l D aC base y1 b1 n1 r1 d1 mc1 ms1 (.ref a :: As) h P1)
    (hst : st = As.reverse ++ .ref a :: rest) (hn : As.length = np) (hR : d1 + 1 ≤ R.frames ∧ 8 + (n1 + 11) + 64 * d1 ≤ R.locals) (hc : kc + mc1 ≤ R.cells) (hd : ks + ms1 ≤ R.slots) (hW : (rest.map fun v => v.category).sum ≤ 8)
    (kk : ∀ (r : Option Value) (h' : jjHp), P1 r h' → jj_J p l e R s m args below meth c D base nL Q nx lc (r.toList ++ rest) h' (kc + mc1) (ks + ms1)) : jj_J p l e R s m args below meth c D base nL Q pc lc st h kc ks := by
  obtain ⟨hx, hb, hml, hown, hts, hg, hE, -, -, -⟩ := C
  obtain ⟨a1, a2, -⟩ := jj_good_at hg hf
  subst a2
  obtain ⟨hlk, hcd, hin, hdd⟩ := q
  refine jj_cont (a0 := (Value.ref a :: As).toArray) (fun H locs ls hw hS hl => ?_) kk
  rcases hlk with hlk | ⟨host, hlk⟩
  · exact va_runV ⟨hx, hb, hml, hown, hts⟩ hM ⟨callB_of np hts (jj_gw_in hcd) rfl rfl rfl (hts _ hin) (hts _ hlk) hdd hR, hts _ hs, hsel _ _ hts⟩ ⟨jj_blind, hrv H locs hw hS, jj_pre hE hw hS⟩ rfl hn hl.1 hst (lv_room hW) a1 ⟨hc, hd⟩
  · exact va_runVN ⟨hx, hb, hml, hown, hts⟩ hM ⟨va_cnB np hts (jj_gw_in hcd) rfl rfl rfl (hE.2.2.1 _ hlk) (hts _ hin) hdd hR, hts _ hs, hsel _ _ hts⟩ ⟨jj_blind, hrv H locs hw hS, jj_pre hE hw hS⟩ rfl hn hl.1 hst (lv_room hW) a1 ⟨hc, hd⟩
theorem jj_callV (C : jj_C p s m args meth c y cc nL ret tb D aC base) (hf : jj_look tb pc = some (.invokevirtual idx, nx, tg, kv)) (q : jj_ML y.cls idx y1 b1 n1 r1 np) (hs : Cond.instanceMethod y1 ∈ jj_gw) {ci : Nat} {fs : List Value} {r0 : vw_C} (ho : h a = some (.inr (ci, fs))) (hcl : jj_cl[ci]? = some r0) (hsel : jj_SEL r0.1 y1) (hM : jj_Ct l D aC base y1 b1 n1 r1 d1 mc1 ms1 (.ref a :: As) h P1)
    (hst : st = As.reverse ++ .ref a :: rest) (hn : As.length = np) (hR : d1 + 1 ≤ R.frames ∧ 8 + (n1 + 11) + 64 * d1 ≤ R.locals) (hc : kc + mc1 ≤ R.cells) (hd : ks + ms1 ≤ R.slots) (hW : (rest.map fun v => v.category).sum ≤ 8)
    (kk : ∀ (r : Option Value) (h' : jjHp), P1 r h' → jj_J p l e R s m args below meth c D base nL Q nx lc (r.toList ++ rest) h' (kc + mc1) (ks + ms1)) : jj_J p l e R s m args below meth c D base nL Q pc lc st h kc ks :=
  jj_callVg C hf q hs (fun H locs hw hS => jj_recv C.2.2.2.2.2.2.1 hw ho hcl) hsel hM hst hn hR hc hd hW kk
/-- a call of a method that the receiver's class inherits or overrides -/
def jj_MU (own : String) (idx : Nat) (C owner : String) (x1 y1 : MethodName) (b1 : ByteArray) (n1 : Nat) (r1 : Option FieldType) (np : Nat) : Prop := Cond.methodLink own idx x1 ∈ jj_gw ∧ Cond.sameMethod x1.cls owner x1.name x1.desc ∈ jj_gw ∧ Cond.selects C x1 y1 ∈ jj_gw ∧ Cond.instanceMethod y1 ∈ jj_gw ∧ Cond.initialized y1.cls ∈ jj_gw ∧ Cond.code y1 b1 n1 r1 ∈ jj_gw ∧ ((Cond.instanceMethod ⟨owner, x1.name, x1.desc⟩ ∈ jj_gw ∧ ∃ b0 n0 r0, Cond.code ⟨owner, x1.name, x1.desc⟩ b0 n0 r0 ∈ jj_gw) ∨ ⟨owner, x1.name, x1.desc⟩ ∈ jj_dc) ∧ (owner ≠ "java/lang/invoke/MethodHandle" ∧ owner ≠ "java/lang/invoke/VarHandle" ∧ (parseMethodDescriptor x1.desc).map (fun d => d.parameters.length) = some np)
theorem jj_callU (C : jj_C p s m args meth c y cc nL ret tb D aC base) {x1 : MethodName} {owner : String} {ci : Nat} {fs : List Value} {r0 : vw_C} (hf : jj_look tb pc = some (.invokevirtual idx, nx, tg, kv)) (ho : h a = some (.inr (ci, fs))) (hcl : jj_cl[ci]? = some r0) (q : jj_MU y.cls idx r0.1 owner x1 y1 b1 n1 r1 np) (hM : jj_Ct l D aC base y1 b1 n1 r1 d1 mc1 ms1 (.ref a :: As) h P1)
    (hst : st = As.reverse ++ .ref a :: rest) (hn : As.length = np) (hR : d1 + 1 ≤ R.frames ∧ 8 + (n1 + 11) + 64 * d1 ≤ R.locals) (hc : kc + mc1 ≤ R.cells) (hd : ks + ms1 ≤ R.slots) (hW : (rest.map fun v => v.category).sum ≤ 8)
    (kk : ∀ (r : Option Value) (h' : jjHp), P1 r h' → jj_J p l e R s m args below meth c D base nL Q nx lc (r.toList ++ rest) h' (kc + mc1) (ks + ms1)) : jj_J p l e R s m args below meth c D base nL Q pc lc st h kc ks := by
  obtain ⟨hx, hb, hml, hown, hts, hg, hE, -, -, -⟩ := C
  obtain ⟨a1, a2, -⟩ := jj_good_at hg hf
  subst a2
  obtain ⟨w1, w2, w3, w4, w5, w6, w7, hdd⟩ := q
  have hdc : va_Decl s ⟨owner, x1.name, x1.desc⟩ := by
    rcases w7 with ⟨g1, b0, n0, r0, g2⟩ | g
    · exact va_Decl.of (hts _ g1) (hts _ g2)
    · exact va_Decl.abs (hE.2.2.2.1 _ g)
  refine jj_cont (a0 := (Value.ref a :: As).toArray) (fun H locs ls hw hS hl => ?_) kk
  refine va_runU (bytes := b1) (maxL := n1) (ret := r1) (x := x1) (owner := owner) ⟨hx, hb, hml, hown, hts⟩ hM ⟨⟨rfl, rfl, hR.1, hR.2, pay_in hts (jj_gw_in w6), List.mem_cons_self⟩, hts _ w6, hts _ w5, ⟨hdd.1, hdd.2.1⟩, fun sig hsg => ?_, hts _ w1, hts _ w2, hdc, hts _ w3, hts _ w4⟩ ⟨jj_blind, jj_recv hE hw ho hcl, jj_pre hE hw hS⟩ rfl hn hl.1 hst (lv_room hW) a1 ⟨hc, hd⟩
  have h2 := hdd.2.2
  rw [hsg] at h2
  exact (Option.some.inj h2).symm
/-- super.m(..) -/
def jj_MS (own : String) (idx : Nat) (y1 : MethodName) (b1 : ByteArray) (n1 : Nat) (r1 : Option FieldType) (np : Nat) : Prop := Cond.methodLink own idx y1 ∈ jj_gw ∧ Cond.sameMethod y1.cls y1.cls y1.name y1.desc ∈ jj_gw ∧ Cond.superclass own y1.cls ∈ jj_gw ∧ Cond.instanceMethod y1 ∈ jj_gw ∧ Cond.initialized y1.cls ∈ jj_gw ∧ Cond.code y1 b1 n1 r1 ∈ jj_gw ∧ (y1.name ≠ "<init>" ∧ (parseMethodDescriptor y1.desc).map (fun d => d.parameters.length) = some np)
theorem jj_callP (C : jj_C p s m args meth c y cc nL ret tb D aC base) {ci : Nat} {fs : List Value} {r0 : vw_C} (hf : jj_look tb pc = some (.invokespecial idx, nx, tg, kv)) (ho : h a = some (.inr (ci, fs))) (hcl : jj_cl[ci]? = some r0) (q : jj_MS y.cls idx y1 b1 n1 r1 np) (hM : jj_Ct l D aC base y1 b1 n1 r1 d1 mc1 ms1 (.ref a :: As) h P1)
    (hst : st = As.reverse ++ .ref a :: rest) (hn : As.length = np) (hR : d1 + 1 ≤ R.frames ∧ 8 + (n1 + 11) + 64 * d1 ≤ R.locals) (hc : kc + mc1 ≤ R.cells) (hd : ks + ms1 ≤ R.slots) (hW : (rest.map fun v => v.category).sum ≤ 8)
    (kk : ∀ (r : Option Value) (h' : jjHp), P1 r h' → jj_J p l e R s m args below meth c D base nL Q nx lc (r.toList ++ rest) h' (kc + mc1) (ks + ms1)) : jj_J p l e R s m args below meth c D base nL Q pc lc st h kc ks := by
  obtain ⟨hx, hb, hml, hown, hts, hg, hE, -, -, -⟩ := C
  obtain ⟨a1, a2, -⟩ := jj_good_at hg hf
  subst a2
  obtain ⟨w1, w2, w3, w4, w5, w6, hno, hnp⟩ := q
  refine jj_cont (a0 := (Value.ref a :: As).toArray) (fun H locs ls hw hS hl => ?_) kk
  refine va_runSU (bytes := b1) (maxL := n1) (ret := r1) (hE.1.1 ci r0 hcl).2 ⟨hx, hb, hml, hown, hts⟩ hM ⟨⟨rfl, rfl, hR.1, hR.2, pay_in hts (jj_gw_in w6), List.mem_cons_self⟩, hts _ w1, hts _ w2, hts _ w3, hts _ w4, hts _ w5, hts _ w6, hno, fun sig hsg => ?_⟩ ⟨jj_blind, jj_recv hE hw ho hcl, jj_pre hE hw hS⟩ rfl hn hl.1 hst (lv_room hW) a1 ⟨hc, hd⟩
  rw [hsg] at hnp
  exact (Option.some.inj hnp).symm
/-- Object() -/
theorem jj_objI (C : jj_C p s m args meth c y cc nL ret tb D aC base) (hf : jj_look tb pc = some (.invokespecial idx, nx, tg, kv)) (w1 : Cond.methodLink y.cls idx objectInit ∈ jj_gw) (w2 : Cond.instanceMethod objectInit ∈ jj_gw) (w3 : Cond.code objectInit ⟨#[0xb1]⟩ 1 none ∈ jj_gw) (hR : 1 ≤ R.frames ∧ 20 ≤ R.locals) (hW : (st.map fun v => v.category).sum ≤ 8)
    (kk : jj_J p l e R s m args below meth c D base nL Q nx lc st h kc ks) : jj_J p l e R s m args below meth c D base nL Q pc lc (.ref a :: st) h kc ks := by
  obtain ⟨hx, hb, hml, hown, hts, hg, hE, -, -, -⟩ := C
  obtain ⟨a1, a2, -⟩ := jj_good_at hg hf
  subst a2
  intro H locs ls hw hS hl
  refine W.objInit hx hb hown (hts _ w1) (hts _ w2) (hts _ w3) rfl (by rw [hml]; exact hl.1) rfl a1 hR.1 ?_ (kk H locs ls hw hS hl)
  have h9 := lv_room (m := m) (pc := pc) (ls := ls) (rest := .ref a :: st) hW
  omega
/-- String.COMPACT_STRINGS -/
theorem jj_gets (C : jj_C p s m args meth c y cc nL ret tb D aC base) (hf : jj_look tb pc = some (.getstatic idx, nx, tg, kv)) (w1 : Cond.fieldLink y.cls idx "java/lang/String" "COMPACT_STRINGS" "Z" ∈ jj_gw)
    (kk : jj_J p l e R s m args below meth c D base nL Q nx lc (.int 1 :: st) h kc ks) : jj_J p l e R s m args below meth c D base nL Q pc lc st h kc ks := by
  obtain ⟨hx, hb, hml, hown, hts, hg, hE, -, -, -⟩ := C
  obtain ⟨a1, a2, -⟩ := jj_good_at hg hf
  subst a2
  exact fun H locs ls hw hS hl => va_gets hx hb hE.2.2.2.2.2.1 hS hown (hts _ w1) (fun _ h => h) a1 (kk H locs ls hw hS hl)
/-- constants of the pool -/
theorem jj_ldci (C : jj_C p s m args meth c y cc nL ret tb D aC base) {v : Int32} (hf : jj_look tb pc = some (.ldc idx, nx, tg, kv)) (w1 : Cond.constant y.cls idx v ∈ jj_gw)
    (kk : jj_J p l e R s m args below meth c D base nL Q nx lc (.int v :: st) h kc ks) : jj_J p l e R s m args below meth c D base nL Q pc lc st h kc ks := by
  obtain ⟨hx, hb, hml, hown, hts, hg, hE, -, -, -⟩ := C
  obtain ⟨a1, a2, -⟩ := jj_good_at hg hf
  subst a2
  exact fun H locs ls hw hS hl => lv_ldc hx hb hown (hts _ w1) a1 (kk H locs ls hw hS hl)
theorem jj_ldcl (C : jj_C p s m args meth c y cc nL ret tb D aC base) {v : Int64} (hf : jj_look tb pc = some (.ldc2_w idx, nx, tg, kv)) (w1 : Cond.constantLong y.cls idx v ∈ jj_gw)
    (kk : jj_J p l e R s m args below meth c D base nL Q nx lc (.long v :: st) h kc ks) : jj_J p l e R s m args below meth c D base nL Q pc lc st h kc ks := by
  obtain ⟨hx, hb, hml, hown, hts, hg, hE, -, -, -⟩ := C
  obtain ⟨a1, a2, -⟩ := jj_good_at hg hf
  subst a2
  exact fun H locs ls hw hS hl => lv_ldc2 hx hb hown (hts _ w1) a1 (kk H locs ls hw hS hl)
/-- the text "" of the class -/
theorem jj_ldcs (C : jj_C p s m args meth c y cc nL ret tb D aC base) (hf : jj_look tb pc = some (.ldc idx, nx, tg, kv)) (hy : (y.cls = "BeanServer" ∧ idx = 52) ∨ (y.cls = "BeanServer$Pattern" ∧ idx = 26))
    (kk : jj_J p l e R s m args below meth c D base nL Q nx lc (.ref (aC 100) :: st) h kc ks) : jj_J p l e R s m args below meth c D base nL Q pc lc st h kc ks := by
  obtain ⟨hx, hb, hml, hown, hts, hg, hE, -, -, -⟩ := C
  obtain ⟨a1, a2, -⟩ := jj_good_at hg hf
  subst a2
  intro H locs ls hw hS hl
  rcases hy with ⟨e1, rfl⟩ | ⟨e1, rfl⟩
  · exact va_ldcS hx hb hown (by rw [e1]; exact hE.2.2.2.2.2.2.2.2.1) a1 (kk H locs ls hw hS hl)
  · exact va_ldcS hx hb hown (by rw [e1]; exact hE.2.2.2.2.2.2.2.2.2.1) a1 (kk H locs ls hw hS hl)
/-- its field value, and that array's length -/
theorem jj_litv (C : jj_C p s m args meth c y cc nL ret tb D aC base) (hf : jj_look tb pc = some (.getfield idx, nx, tg, kv)) (w1 : Cond.fieldLink y.cls idx "java/lang/String" "value" "[B" ∈ jj_gw)
    (kk : jj_J p l e R s m args below meth c D base nL Q nx lc (.ref (aC 101) :: st) h kc ks) : jj_J p l e R s m args below meth c D base nL Q pc lc (.ref (aC 100) :: st) h kc ks := by
  obtain ⟨hx, hb, hml, hown, hts, hg, hE, -, -, -⟩ := C
  obtain ⟨a1, a2, -⟩ := jj_good_at hg hf
  subst a2
  exact fun H locs ls hw hS hl => vk_getf hx hb ((hE.2.2.2.2.2.2.2.2.2.2.1).1 0 (by decide)).2.2.1 hS hown (hts _ w1) (fun _ h => h) a1 (kk H locs ls hw hS hl)
theorem jj_litl (C : jj_C p s m args meth c y cc nL ret tb D aC base) (hf : jj_look tb pc = some (.arraylength, nx, tg, kv))
    (kk : jj_J p l e R s m args below meth c D base nL Q nx lc (.int 0 :: st) h kc ks) : jj_J p l e R s m args below meth c D base nL Q pc lc (.ref (aC 101) :: st) h kc ks := by
  obtain ⟨hx, hb, hml, hown, hts, hg, hE, -, -, -⟩ := C
  obtain ⟨a1, a2, -⟩ := jj_good_at hg hf
  subst a2
  exact fun H locs ls hw hS hl => va_tlen hx hb ((hE.2.2.2.2.2.2.2.2.2.2.1).1 0 (by decide)).2.2.2 hS rfl a1 (kk H locs ls hw hS hl)
theorem jj_lit_recv (C : jj_C p s m args meth c y cc nL ret tb D aC base) : ∀ (H : Heap) (locs : List Loc), jj_W D base h H → va_S (jj_A base) s.heap H locs → ∃ cell : Cell, H[aC 100]? = some cell ∧ cell.vm.isStatics = false ∧ s.vm.findClass "java/lang/String" = some cell.cls :=
  fun H locs _ hS => vk_recv (C.2.2.2.2.2.2.1.2.2.2.2.2.2.2.2.2.2.1) (i := 0) (by decide) hS
/-- Preconditions.SIOOBE_FORMATTER: a reference or null -/
theorem jj_getq (C : jj_C p s m args meth c y cc nL ret tb D aC base) (hf : jj_look tb pc = some (.getstatic idx, nx, tg, kv)) (w1 : Cond.fieldLink y.cls idx "jdk/internal/util/Preconditions" "SIOOBE_FORMATTER" "Ljava/util/function/BiFunction;" ∈ jj_gw)
    (kk : ∀ r : Option Nat, jj_J p l e R s m args below meth c D base nL Q nx lc (va_rf r :: st) h kc ks) : jj_J p l e R s m args below meth c D base nL Q pc lc st h kc ks := by
  obtain ⟨hx, hb, hml, hown, hts, hg, hE, -, -, -⟩ := C
  obtain ⟨a1, a2, -⟩ := jj_good_at hg hf
  subst a2
  intro H locs ls hw hS hl
  rcases hE.2.2.2.2.2.2.2.1 with hz | ⟨t, hz⟩
  · exact va_gets hx hb hz hS hown (hts _ w1) (fun _ h => h) a1 (kk none H locs ls hw hS hl)
  · exact va_gets hx hb hz hS hown (hts _ w1) (fun _ h => h) a1 (kk (some t) H locs ls hw hS hl)
/-- the law's script -/
theorem jj_slen (C : jj_C p s m args meth c y cc nL ret tb D aC base) {b L : Nat} {xs : Nat → Int32} (hX : va_X b L xs s s.heap) (hbl : b < base) (hf : jj_look tb pc = some (.arraylength, nx, tg, kv))
    (kk : jj_J p l e R s m args below meth c D base nL Q nx lc (.int (nI L) :: st) h kc ks) : jj_J p l e R s m args below meth c D base nL Q pc lc (.ref b :: st) h kc ks := by
  obtain ⟨hx, hb, hml, hown, hts, hg, hE, -, -, -⟩ := C
  obtain ⟨a1, a2, -⟩ := jj_good_at hg hf
  subst a2
  exact fun H locs ls hw hS hl => va_slen hx hb hX (Nat.lt_of_lt_of_le hbl hE.2.2.2.2.2.2.1) (fun q => Nat.not_le.mpr hbl q) hS a1 (kk H locs ls hw hS hl)
theorem jj_sld (C : jj_C p s m args meth c y cc nL ret tb D aC base) {b L j : Nat} {i : Int32} {xs : Nat → Int32} (hX : va_X b L xs s s.heap) (hbl : b < base) (hf : jj_look tb pc = some (.iaload, nx, tg, kv)) (hj : i = nI j) (hlt : j < L) (hL : L < 2 ^ 31)
    (kk : jj_J p l e R s m args below meth c D base nL Q nx lc (.int (xs j) :: st) h kc ks) : jj_J p l e R s m args below meth c D base nL Q pc lc (.int i :: .ref b :: st) h kc ks := by
  obtain ⟨hx, hb, hml, hown, hts, hg, hE, -, -, -⟩ := C
  obtain ⟨a1, a2, -⟩ := jj_good_at hg hf
  subst a2
  subst hj
  have hcl : (nI j).toNatClampNeg = j := nI_clamp (Nat.lt_trans hlt hL)
  exact fun H locs ls hw hS hl => va_sld hx hb hX (Nat.lt_of_lt_of_le hbl hE.2.2.2.2.2.2.1) (fun q => Nat.not_le.mpr hbl q) hS (vp_in_nI hlt hL) a1 (by rw [hcl]; exact kk H locs ls hw hS hl)
end JJC
