/-! Arrays' clone, methods of a class some of whose methods are run by an entry; StringBuilder: growth, toString, setLength, charAt, deleteCharAt -/
theorem jj_metF {l : Launch} {y : MethodName} {ws ws' : List Cond} {rm : Room} {Pc : Array Value → State → Prop} {Qc : Array Value → State → Outcome → State → Prop} {mc ms : Nat} {free : Addr → Prop} {cc : ByteArray} {maxL : Nat} {ret : Option FieldType}
    (hy : plainFor y = true) (hw : ws = Cond.code y cc maxL ret :: ws')
    (body : ∀ p e s m args below meth c s₁, BodyLoose p l y (headSpec ws rm) cc maxL ret e s m args below meth c s₁ → c.maxLocals = maxL → Pc args s →
      W p l e (headSpec ws rm).room s m args below meth c s.heap [] 0 0 (MQ below Qc args s mc ms free) (entryFrame m args maxL)) : Met l y ws rm Pc Qc mc ms free := by
  refine MetFree.of_bodyRF (code := cc) (maxLocals := maxL) (ret := ret) hy ?_ ?_
  · intro args s m h hn
    obtain ⟨meth, c, h1, h2, h3, h4, h5, h6, -, -⟩ := Cond.code_spec hn (atoms_spec (ws := ws) h _ (by rw [hw]; exact List.mem_cons_self))
    exact ⟨meth, c, h1, h2, h3, h4, h5, h6⟩
  · intro p e s m args below meth c s₁ B hml hP _ hst
    have hh0 : s₁.heap = s.heap := by rw [B.state]; rfl
    obtain ⟨t, a1, o, b1, b2, b3⟩ := body p e s m args below meth c s₁ B hml hP s₁ hh0 (Stand.of_body B)
    exact ⟨t, o, hst.trans a1, b1, b2, ⟨b3.1, b3.2⟩⟩
theorem jj_startF {l : Launch} {y : MethodName} {nL d mc ms base : Nat} {ret : Option FieldType} {tb : jjTab} {D : va_G} {aC : Nat → ClassId} {h : jjHp} {b : ByteArray} {av : List Value} {Post : Option Value → jjHp → Prop} (hy : plainFor y = true) (hg : jj_good b nL tb) (hn : (lg_sl av).length ≤ nL)
    (body : ∀ (p : Program) (e : Env) (s : State) (m : MethodId) (args : Array Value) (below : List Frame) (meth : Method) (c : Code), jj_C p s m args meth c y b nL ret tb D aC base → jj_J p l e (jj_rm d mc ms) s m args below meth c D base nL (MQ below (jj_Q D base Post) args s mc ms (jj_A base)) 0 (lv_args 0 av) [] h 0 0) : jj_Ct l D aC base y b nL ret d mc ms av h Post := by
  refine jj_metF (cc := b) (maxL := nL) (ret := ret) hy rfl ?_
  intro p e s m args below meth c s₁ B hml hv
  obtain ⟨rfl, hE, hw⟩ := hv
  have hts := atoms_spec (ws := .code y b nL ret :: jj_gw) B.pre
  have C : jj_C p s m av.toArray meth c y b nL ret tb D aC base := ⟨B.exec, B.bytes, hml, findClass_of_methodNamed B.named, fun w h => hts w (List.mem_cons_of_mem _ h), hg, hE, B.notSynchronized, fun hi => (name_of_methodNamed B.named B.method).1.trans hi, B.returns⟩
  have hl := lv_entry av (n := nL) hn
  rw [lg_entry_eq]
  exact body p e s m _ below meth c C s.heap [] _ hw va_S.rf hl
section JJK
variable {p : Program} {l : Launch} {e : Env} {R : Room} {s : State} {m : MethodId} {args : Array Value} {below : List Frame} {meth : Method} {c : Code} {Q : State → Prop} {y : MethodName} {cc : ByteArray} {nL : Nat} {ret : Option FieldType} {tb : jjTab} {D : va_G} {aC : Nat → ClassId} {base : Nat}
variable {pc pc' nx tg idx kc ks mc ms d : Nat} {kv : Int32} {lc lc' : jjLoc} {st st' rest : List Value} {h : jjHp} {a : Nat}
theorem jj_byteName (hE : jj_E D aC base s) : s.vm.findClass "[B" = some (aC 4) := (hE.1.2 4 (aC 4, .byte) rfl).2
theorem jj_clone (C : jj_C p s m args meth c y cc nL ret tb D aC base) {n : Nat} {f : Nat → Int32} (hf : jj_look tb pc = some (.invokevirtual idx, nx, tg, kv)) (w1 : Cond.methodLink y.cls idx ⟨"[B", "clone", "()Ljava/lang/Object;"⟩ ∈ jj_gw) (ho : h a = some (kx_ba aC n f)) (hfit : ∀ i, i < n → fits .byte (.int (f i)) = true) (hR : 1 ≤ R.frames) (hlo : (st.map fun v => v.category).sum + 14 ≤ R.locals) (hc : kc + 1 ≤ R.cells) (hd : ks + n ≤ R.slots)
    (kk : ∀ q, h q = none → jj_J p l e R s m args below meth c D base nL Q nx lc (.ref q :: st) (jj_up h q (kx_ba aC n f)) (kc + 1) (ks + n)) : jj_J p l e R s m args below meth c D base nL Q pc lc (.ref a :: st) h kc ks := by
  obtain ⟨hx, hb, hml, hown, hts, hg, hE, -, -, -⟩ := C
  obtain ⟨a1, a2, -⟩ := jj_good_at hg hf
  subst a2
  intro H locs ls hw hS hl
  obtain ⟨ws, hP, hD, hi⟩ := hw
  obtain ⟨q0, hq0⟩ := hi a _ ho
  refine va_clone (ty := .byte) hx hb (hml.trans hl.1.symm) hown (hts _ w1) (hts _ wd_174) (hts _ wd_175) (hts _ wd_176) (hts _ wd_177) (hE.2.2.2.2.2.2.2.2.2.2.2 ("[B", "java/lang/Cloneable") List.mem_cons_self) hE.1 hP hD hS (fun q hq => Nat.le_trans hE.2.2.2.2.2.2.1 hq) q0 4 hq0 rfl (jj_byteName hE) (fun i v hv => ?_) hR hlo hc hd a1 (fun q H1 hK1 hP1 hD1 hS1 => kk q (jj_fresh hi hD1) H1 locs ls ⟨_, hP1, hD1, jj_push_in hi⟩ hS1 hl)
  by_cases hin : i < n
  · have h1 : (vp_cell (aC 4) (n, .inl f)).slots[i]? = some (.int (f i)) := arrV_read (aC 4) (fun k => .int (f k)) hin
    rw [h1] at hv
    cases hv
    exact hfit i hin
  · have h2 : (vp_cell (aC 4) (n, .inl f)).slots.size = n := arrV_size (aC 4) n (fun k => .int (f k))
    have h3 := (Array.getElem?_eq_some_iff.mp hv).1
    omega
theorem jj_castB (C : jj_C p s m args meth c y cc nL ret tb D aC base) {n : Nat} {f : Nat → Int32} (hf : jj_look tb pc = some (.checkcast idx, nx, tg, kv)) (w1 : Cond.classLink y.cls idx "[B" ∈ jj_gw) (ho : h a = some (kx_ba aC n f))
    (kk : jj_J p l e R s m args below meth c D base nL Q nx lc (.ref a :: st) h kc ks) : jj_J p l e R s m args below meth c D base nL Q pc lc (.ref a :: st) h kc ks := by
  obtain ⟨hx, hb, hml, hown, hts, hg, hE, -, -, -⟩ := C
  obtain ⟨a1, a2, -⟩ := jj_good_at hg hf
  subst a2
  intro H locs ls hw hS hl
  have hh := hw
  obtain ⟨ws, hP, hD, hi⟩ := hh
  obtain ⟨q0, hq0⟩ := hi a _ ho
  exact va_castA hx hb hown (hts _ w1) hP q0 hq0 (jj_byteName hE) a1 (kk H locs ls hw hS hl)
end JJK
