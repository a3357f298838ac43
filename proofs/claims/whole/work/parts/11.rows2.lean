/-! System.arraycopy of bytes, and what is said of updates -/
theorem jj_up_up {h : jjHp} {a : Nat} {e e' : va_E} : jj_up (jj_up h a e) a e' = jj_up h a e' := by
  funext b
  unfold jj_up
  split <;> rfl
theorem jj_up_self {h : jjHp} {a : Nat} {e : va_E} (ho : h a = some e) : jj_up h a e = h := by
  funext b
  unfold jj_up
  split
  next hb => rw [hb, ho]
  next => rfl
theorem jj_up_comm {h : jjHp} {a b : Nat} {e e' : va_E} (hn : a ≠ b) : jj_up (jj_up h a e) b e' = jj_up (jj_up h b e') a e := by
  funext q
  unfold jj_up
  by_cases h1 : q = b
  · subst h1
    rw [if_pos rfl, if_neg (Ne.symm hn), if_pos rfl]
  · rw [if_neg h1]
    by_cases h2 : q = a
    · rw [if_pos h2, if_pos h2]
    · rw [if_neg h2, if_neg h2, if_neg h1]
theorem jj_ne {h : jjHp} {a b : Nat} {e : va_E} (hf : h a = none) (hb : h b = some e) : b ≠ a := fun q => by subst q; rw [hf] at hb; cases hb
section JJB
variable {p : Program} {l : Launch} {e : Env} {R : Room} {s : State} {m : MethodId} {args : Array Value} {below : List Frame} {meth : Method} {c : Code} {Q : State → Prop} {y : MethodName} {cc : ByteArray} {nL : Nat} {ret : Option FieldType} {tb : jjTab} {D : va_G} {aC : Nat → ClassId} {base : Nat}
variable {pc pc' nx tg idx kc ks mc ms d : Nat} {kv : Int32} {lc lc' : jjLoc} {st st' rest : List Value} {h : jjHp} {a : Nat}
theorem jj_acopy (C : jj_C p s m args meth c y cc nL ret tb D aC base) {a0 n0 n1 j0 j1 n : Nat} {sp dp nn : Int32} {f g : Nat → Int32} (hf : jj_look tb pc = some (.invokestatic idx, nx, tg, kv)) (w1 : Cond.methodLink y.cls idx arraycopyName ∈ jj_gw) (w2 : Cond.native arraycopyName ∈ jj_gw) (w3 : Cond.static arraycopyName ∈ jj_gw) (w4 : Cond.initialized "java/lang/System" ∈ jj_gw)
    (ho0 : h a0 = some (.inl (aC 4, n0, .inl f))) (ho1 : h a = some (.inl (aC 4, n1, .inl g))) (e1 : sp = nI j0) (e2 : dp = nI j1) (e3 : nn = nI n) (h4 : j0 + n ≤ n0) (h5 : j1 + n ≤ n1) (hn0 : n0 < 2 ^ 31) (hn1 : n1 < 2 ^ 31) (hfit : ∀ i, i < n → fits .byte (.int (f (j0 + i))) = true) (hR : 1 ≤ R.frames) (hlo : (st.map fun v => v.category).sum + (nativeFrameWords "java/lang/System" "arraycopy" 5 + 11) ≤ R.locals)
    (kk : jj_J p l e R s m args below meth c D base nL Q nx lc st (jj_up h a (.inl (aC 4, n1, .inl (va_cpy f g j0 j1 n)))) kc ks) : jj_J p l e R s m args below meth c D base nL Q pc lc (.int nn :: .int dp :: .ref a :: .int sp :: .ref a0 :: st) h kc ks := by
  obtain ⟨hx, hb, hml, hown, hts, hg, hE, -, -, -⟩ := C
  obtain ⟨a1, a2, -⟩ := jj_good_at hg hf
  subst a2
  subst e1
  subst e2
  subst e3
  intro H locs ls hw hS hl
  obtain ⟨ws, hP, hD, hi⟩ := hw
  obtain ⟨q0, hq0⟩ := hi a0 _ ho0
  obtain ⟨q1, hq1⟩ := hi a _ ho1
  have c0 : (nI j0).toNatClampNeg = j0 := nI_clamp (by omega)
  have c1 : (nI j1).toNatClampNeg = j1 := nI_clamp (by omega)
  have c2 : (nI n).toNatClampNeg = n := nI_clamp (by omega)
  refine va_copyi hx hb (hml.trans hl.1.symm) hown (hts _ w1) (hts _ w2) (hts _ w3) (hts _ w4) hE.1 hP hD hS q0 q1 4 4 (ty := .byte) hq0 hq1 rfl rfl rfl (nI_pos (by omega)) (nI_pos (by omega)) (nI_pos (by omega)) (by rw [c0, c2]; exact h4) (by rw [c1, c2]; exact h5) (by rw [c0, c2]; exact hfit) hR hlo a1 (fun H1 locs1 hP1 hD1 hS1 => ?_)
  rw [c0, c1, c2] at hP1 hD1
  exact kk H1 locs1 ls ⟨_, hP1, hD1, jj_set_in (A := jj_A base) hi hq1⟩ hS1 hl
/-- the top of the stack, by another name for it -/
theorem jj_top {x x' : Int32} (hx : x = x') (k : jj_J p l e R s m args below meth c D base nL Q pc lc (.int x' :: st) h kc ks) : jj_J p l e R s m args below meth c D base nL Q pc lc (.int x :: st) h kc ks := hx ▸ k
/-- the same place, said otherwise -/
theorem jj_eq {h' : jjHp} (e1 : pc = pc') (e2 : lc = lc') (e3 : st = st') (e4 : h = h') (k : jj_J p l e R s m args below meth c D base nL Q pc' lc' st' h' kc ks) : jj_J p l e R s m args below meth c D base nL Q pc lc st h kc ks := by
  subst e1; subst e2; subst e3; subst e4; exact k
theorem jj_mmin (C : jj_C p s m args meth c y cc nL ret tb D aC base) {x z : Int32} (hf : jj_look tb pc = some (.invokestatic idx, nx, tg, kv)) (w1 : Cond.methodLink y.cls idx Lib.Math.min.name ∈ jj_gw) (w2 : Cond.static Lib.Math.min.name ∈ jj_gw) (w3 : Cond.initialized "java/lang/Math" ∈ jj_gw) (w4 : Cond.code Lib.Math.min.name Lib.Math.min.code 2 (some .int) ∈ jj_gw) (hR : 1 ≤ R.frames) (hlo : (st.map fun v => v.category).sum + 13 ≤ R.locals) (hc : kc ≤ R.cells) (hd : ks ≤ R.slots)
    (kk : jj_J p l e R s m args below meth c D base nL Q nx lc (.int (if z < x then z else x) :: st) h kc ks) : jj_J p l e R s m args below meth c D base nL Q pc lc (.int z :: .int x :: st) h kc ks := by
  obtain ⟨hx, hb, hml, hown, hts, hg, hE, -, -, -⟩ := C
  obtain ⟨a1, a2, -⟩ := jj_good_at hg hf
  subst a2
  exact fun H locs ls hw hS hl => va_mmin hx hb (hml.trans hl.1.symm) hown (hts _ w1) (hts _ w2) (hts _ w3) (hts _ w4) hR hlo hc hd a1 (kk H locs ls hw hS hl)
theorem jj_mmax (C : jj_C p s m args meth c y cc nL ret tb D aC base) {x z : Int32} (hf : jj_look tb pc = some (.invokestatic idx, nx, tg, kv)) (w1 : Cond.methodLink y.cls idx Lib.Math.max.name ∈ jj_gw) (w2 : Cond.static Lib.Math.max.name ∈ jj_gw) (w3 : Cond.initialized "java/lang/Math" ∈ jj_gw) (w4 : Cond.code Lib.Math.max.name Lib.Math.max.code 2 (some .int) ∈ jj_gw) (hR : 1 ≤ R.frames) (hlo : (st.map fun v => v.category).sum + 13 ≤ R.locals) (hc : kc ≤ R.cells) (hd : ks ≤ R.slots)
    (kk : jj_J p l e R s m args below meth c D base nL Q nx lc (.int (if x < z then z else x) :: st) h kc ks) : jj_J p l e R s m args below meth c D base nL Q pc lc (.int z :: .int x :: st) h kc ks := by
  obtain ⟨hx, hb, hml, hown, hts, hg, hE, -, -, -⟩ := C
  obtain ⟨a1, a2, -⟩ := jj_good_at hg hf
  subst a2
  exact fun H locs ls hw hS hl => va_mmax hx hb (hml.trans hl.1.symm) hown (hts _ w1) (hts _ w2) (hts _ w3) (hts _ w4) hR hlo hc hd a1 (kk H locs ls hw hS hl)
end JJB
