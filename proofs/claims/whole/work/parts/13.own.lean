/-! An object in the making: its fields, its own new cells, and all else as it was -/
def jj_OI (h0 h : jjHp) (x ci : Nat) (fs : List Value) (L : List (Nat × Nat × va_E)) : Prop :=
  h x = some (.inr (ci, fs)) ∧ (∀ q ∈ L, h q.2.1 = some q.2.2 ∧ h0 q.2.1 = none) ∧ (L.map (fun q => q.2.1)).Nodup ∧ (∀ b e, b ≠ x → h0 b = some e → h b = some e) ∧ h0 x ≠ none
theorem jj_OI.start {h : jjHp} {x ci : Nat} {fs : List Value} (ho : h x = some (.inr (ci, fs))) : jj_OI h h x ci fs [] :=
  ⟨ho, fun q hq => absurd hq List.not_mem_nil, List.nodup_nil, fun _ _ _ hb => hb, by rw [ho]; exact fun z => by cases z⟩
/-- a new cell goes into a field -/
theorem jj_OI.add {h0 h : jjHp} {x ci k a : Nat} {fs : List Value} {L : List (Nat × Nat × va_E)} {e1 : va_E} (hI : jj_OI h0 h x ci fs L) (hfr : h a = none) : jj_OI h0 (jj_up (jj_up h a e1) x (.inr (ci, fs.set k (.ref a)))) x ci (fs.set k (.ref a)) ((k, a, e1) :: L) := by
  obtain ⟨i1, i2, i3, i4, i5⟩ := hI
  have hxa : x ≠ a := jj_ne hfr i1
  refine ⟨jj_up_s, fun q hq => ?_, ?_, fun b e hb h0b => (jj_up_n hb).trans (jj_up_f hfr (i4 b e hb h0b)), i5⟩
  · rcases List.mem_cons.mp hq with rfl | hq
    · refine ⟨(jj_up_n (Ne.symm hxa)).trans jj_up_s, ?_⟩
      cases hv : h0 a with
      | none => rfl
      | some e =>
        have := i4 a e (Ne.symm hxa) hv
        rw [hfr] at this
        cases this
    · obtain ⟨g1, g2⟩ := i2 q hq
      exact ⟨(jj_up_n (fun z : q.2.1 = x => i5 (by rw [← z]; exact g2))).trans (jj_up_f hfr g1), g2⟩
  · show (a :: L.map (fun q => q.2.1)).Nodup
    refine List.nodup_cons.mpr ⟨fun hm => ?_, i3⟩
    obtain ⟨q, hq, hqa⟩ := List.mem_map.mp hm
    have g1 := (i2 q hq).1
    rw [hqa, hfr] at g1
    cases g1
/-- a value goes into a field -/
theorem jj_OI.put {h0 h : jjHp} {x ci k : Nat} {v : Value} {fs : List Value} {L : List (Nat × Nat × va_E)} (hI : jj_OI h0 h x ci fs L) : jj_OI h0 (jj_up h x (.inr (ci, fs.set k v))) x ci (fs.set k v) L := by
  obtain ⟨i1, i2, i3, i4, i5⟩ := hI
  refine ⟨jj_up_s, fun q hq => ?_, i3, fun b e hb h0b => (jj_up_n hb).trans (i4 b e hb h0b), i5⟩
  obtain ⟨g1, g2⟩ := i2 q hq
  exact ⟨(jj_up_n (fun z : q.2.1 = x => i5 (by rw [← z]; exact g2))).trans g1, g2⟩
section JJO
variable {p : Program} {l : Launch} {e : Env} {R : Room} {s : State} {m : MethodId} {args : Array Value} {below : List Frame} {meth : Method} {c : Code} {Q : State → Prop} {y : MethodName} {cc : ByteArray} {nL : Nat} {ret : Option FieldType} {tb : jjTab} {D : va_G} {aC : Nat → ClassId} {base : Nat}
variable {pc pc1 nx tg tg1 idx kc ks mc ms d : Nat} {kv kv1 : Int32} {lc lc' : jjLoc} {st st' rest : List Value} {h h0 : jjHp} {x ci k : Nat} {fs : List Value} {L : List (Nat × Nat × va_E)}
/-- a new array goes into a final field -/
theorem jj_arrF (C : jj_C p s m args meth c y cc nL ret tb D aC base) (hI : jj_OI h0 h x ci fs L) (t0 : Nat) {cA : ClassId} {at0 : ArrayType} {ty : FieldType} {n : Int32} {N : Nat} {a0 : vp_A} (hf : jj_look tb pc = some (.newarray at0, pc1, tg1, kv1)) (hw0 : Cond.arrayClass (newarray.typeOf at0) ∈ jj_gw) (hty : newarray.typeOf at0 = ty) (ht : (jj_tys aC)[t0]? = some (cA, ty)) (ha : ∀ cA : ClassId, vp_cell cA a0 = arrV cA N (fun _ => defaultValue ty)) (hN : n = nI N) (hb0 : N ≤ 65536) (hc : kc + 1 ≤ R.cells) (hd : ks + N ≤ R.slots)
    (hf2 : jj_look tb pc1 = some (.putfield idx, nx, tg, kv)) (q : jj_FP y.cls idx ci k (.array ty) true) (hi0 : y.name = "<init>") (hlen : k < fs.length) (kk : ∀ (a : Nat) (h' : jjHp), jj_OI h0 h' x ci (fs.set k (.ref a)) ((k, a, .inl (cA, a0)) :: L) → jj_J p l e R s m args below meth c D base nL Q nx lc st h' (kc + 1) (ks + N)) : jj_J p l e R s m args below meth c D base nL Q pc lc (.int n :: .ref x :: st) h kc ks := by
  refine jj_newa C t0 hf hw0 hty ht ha hN hb0 hc hd (fun a hfr => ?_)
  exact jj_putF C hf2 q hi0 (jj_up_f hfr hI.1) rfl rfl hlen (kk a _ (hI.add hfr))
theorem jj_arrQ (C : jj_C p s m args meth c y cc nL ret tb D aC base) (hI : jj_OI h0 h x ci fs L) (t0 : Nat) {cA : ClassId} {CN : String} {idx0 : Nat} {n : Int32} {N : Nat} (hf : jj_look tb pc = some (.anewarray idx0, pc1, tg1, kv1)) (hw0 : Cond.classLink y.cls idx0 CN ∈ jj_gw) (hao : CN ∈ jj_ao) (ht : (jj_tys aC)[t0]? = some (cA, .object CN)) (hN : n = nI N) (hb0 : N ≤ 65536) (hc : kc + 1 ≤ R.cells) (hd : ks + N ≤ R.slots)
    (hf2 : jj_look tb pc1 = some (.putfield idx, nx, tg, kv)) (q : jj_FP y.cls idx ci k (.array (.object CN)) true) (hi0 : y.name = "<init>") (hlen : k < fs.length) (kk : ∀ (a : Nat) (h' : jjHp), jj_OI h0 h' x ci (fs.set k (.ref a)) ((k, a, .inl (cA, N, .inr (.inr (.inr (.inr (fun _ => none)))))) :: L) → jj_J p l e R s m args below meth c D base nL Q nx lc st h' (kc + 1) (ks + N)) : jj_J p l e R s m args below meth c D base nL Q pc lc (.int n :: .ref x :: st) h kc ks := by
  refine jj_newq C t0 hf hw0 hao ht hN hb0 hc hd (fun a hfr => ?_)
  exact jj_putF C hf2 q hi0 (jj_up_f hfr hI.1) rfl rfl hlen (kk a _ (hI.add hfr))
/-- a value goes into a field -/
theorem jj_numF (C : jj_C p s m args meth c y cc nL ret tb D aC base) (hI : jj_OI h0 h x ci fs L) {ty : FieldType} {v : Value} (hf : jj_look tb pc = some (.putfield idx, nx, tg, kv)) (q : jj_FL y.cls idx ci k ty false) (hn : narrow ty v = v) (hfit : fits ty v = true) (hlen : k < fs.length) (kk : ∀ (h' : jjHp), jj_OI h0 h' x ci (fs.set k v) L → jj_J p l e R s m args below meth c D base nL Q nx lc st h' kc ks) : jj_J p l e R s m args below meth c D base nL Q pc lc (v :: .ref x :: st) h kc ks :=
  jj_putf C hf q hI.1 hn hfit hlen (kk _ hI.put)
end JJO
