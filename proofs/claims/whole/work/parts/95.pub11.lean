/-! The class's public methods: counter, gauge -/
section PL0
variable {p : Program} {l : Launch} {e : Env} {R : Room} {s : State} {m : MethodId} {args : Array Value} {below : List Frame} {meth : Method} {c : Code} {y : MethodName} {cc : ByteArray} {nL : Nat} {ret : Option FieldType} {tb : jjTab} {D : va_G} {aC : Nat → ClassId} {base : Nat} {Q : State → Prop} {pc nx tg : Nat} {kv : Int32} {lc : jjLoc} {st : List Value} {h : jjHp} {kc ks a : Nat}
theorem jj_aastO (C : jj_C p s m args meth c y cc nL ret tb D aC base) (t0 : Nat) {cA : ClassId} {r : vw_C} {E : String} {n j v ci : Nat} {vs : List Value} {i : Int32} {f : Nat → Option Nat} (hf : jj_look tb pc = some (.aastore, nx, tg, kv)) (ho : h a = some (.inl (cA, n, .inr (.inr (.inr (.inr f)))))) (ht : (jj_tys aC)[t0]? = some (cA, .object E)) (hv : h v = some (.inr (ci, vs))) (hcl0 : jj_cl[ci]? = some r) (hca : (r.1, E) ∈ jj_ca) (hj : i = nI j) (hlt : j < n) (hn : n < 2 ^ 31) (kk : jj_J p l e R s m args below meth c D base nL Q nx lc st (jj_up h a (.inl (cA, n, .inr (.inr (.inr (.inr (va_up f j (some v)))))))) kc ks) : jj_J p l e R s m args below meth c D base nL Q pc lc (.ref v :: .int i :: .ref a :: st) h kc ks := by
  obtain ⟨hx, hb, -, hown, hts, hg, hE, -, -, -⟩ := C
  obtain ⟨a1, a2, -⟩ := jj_good_at hg hf
  subst a2
  subst hj
  intro H locs ls hw hS hl
  have hh := hw
  obtain ⟨ws, hP, hD, hi⟩ := hh
  obtain ⟨q0, hq0⟩ := hi a _ ho
  have hin : vp_in (nI j) n := vp_in_nI hlt hn
  have hcl : (nI j).toNatClampNeg = j := nI_clamp (Nat.lt_trans hlt hn)
  obtain ⟨qk, hqk⟩ := hi v _ hv
  refine va_astqO hx hb hE.1 hP hD hS q0 t0 qk ci hq0 ht (hE.2.2.2.2.2.2.2.2.2.2.2 _ hca) hqk hcl0 hin a1 (fun H1 locs1 hP1 hD1 hS1 => ?_)
  rw [hcl] at hP1 hD1
  exact kk H1 locs1 ls ⟨_, hP1, hD1, jj_set_in (A := jj_A base) hi hq0⟩ hS1 hl
end PL0
section PL
variable {l : Launch} {D : va_G} {aC : Nat → ClassId} {base : Nat} {h h' : jjHp} {r0 b0 : Nat} {ca cv cp cm : Nat → Nat} {nn rh rh' : Nat → List Nat} {sg : Nat → Nat → Int32} {mu : Nat → Int64} {io : Nat → Int32} {bm nq nl lp : Nat} {fb fq fm : Nat → Option Nat}
/-- another array of monitors -/
theorem RC.mons (hC : RC aC h r0 b0 ca cv cp cm nn rh sg mu io bm nq nl lp fb fq fm) (hA : jA aC) {fm' : Nat → Option Nat} : jj_fr [ca 5] h (jj_up h (ca 5) (rfA (aC 7) 6 fm')) ∧ SF aC h r0 b0 [ca 5] ∧ RMs aC (jj_up h (ca 5) (rfA (aC 7) 6 fm')) b0 cm rh sg mu fm ∧ (∀ {sg' : Nat → Nat → Int32} {cm' : Nat → Nat} {rh' : Nat → List Nat} {mu' : Nat → Int64}, (∀ k, k ∈ [2, 3, 4, 18, 20] → sg' k = sg k) → (∀ k, 18 ≤ k → rh' k = rh k) → RMs aC (jj_up h (ca 5) (rfA (aC 7) 6 fm')) b0 cm' rh' sg' mu' fm' → RC aC (jj_up h (ca 5) (rfA (aC 7) 6 fm')) r0 b0 ca cv cp cm' nn rh' sg' mu' io bm nq nl lp fb fq fm') := by
  have hC0 := hC
  obtain ⟨fB, fsB, hB0, hB1⟩ := hC.sb
  obtain ⟨hx, hsb, hb, hB, hq, hQ, hm, hM, hL, hs, hP⟩ := hC
  have hof := hC0.off hm (show (106 : Nat) ≠ 205 by decide) ⟨show (106 : Nat) ≠ 7 by decide, show (106 : Nat) ≠ 8 by decide⟩
  have hS : SF aC h r0 b0 [ca 5] := (SF.nil hB0).cons hm (bz_a hA (by decide) (by decide) (by decide))
  have m1 : ∀ c, c ≠ ca 5 → c ∉ [ca 5] := fun c hc q => hc (List.mem_singleton.mp q)
  have hf : jj_fr [ca 5] h (jj_up h (ca 5) (rfA (aC 7) 6 fm')) := jj_fr.rf.up (Or.inl List.mem_cons_self)
  have hm1 : jj_up h (ca 5) (rfA (aC 7) 6 fm') (ca 5) = some (rfA (aC 7) 6 fm') := jj_up_s
  generalize jj_up h (ca 5) (rfA (aC 7) 6 fm') = h1 at hf hm1 ⊢
  obtain ⟨nx, F, l1, l2, ho, l4, l5, l6⟩ := hL
  refine ⟨hf, hS, hM.sf hS hf (fun i hi hp => m1 _ (hof.2 i hi hp)), fun he hr hM' => ?_⟩
  have e18 := he 18 (by decide)
  have e20 := he 20 (by decide)
  refine ⟨hf _ _ (m1 _ (co_ne 0 106 hx hm rfl rfl (by decide))) hx, ?_, hf _ _ (m1 _ (co_ne 112 106 hb hm rfl rfl (by decide))) hb, (hB.sf hA hS hf (fun i hi hp => ⟨m1 _ (hof.1 i hi hp).1, m1 _ (hof.1 i hi hp).2⟩)).sgc (he 2 (by decide)) (he 3 (by decide)) (he 4 (by decide)), hf _ _ (m1 _ (cl_ne hA 6 7 (by decide) (by decide) hq hm (by decide))) hq, (hQ.sf hS hf).cg (fun i hi => hr _ (by omega)), hm1, hM', ⟨nx, F, l1, l2, hf _ _ (m1 _ (co_ne 2 106 ho hm rfl rfl (by decide))) ho, fun w hw => hf _ _ (m1 _ (co_ne 216 106 (l4 w hw) hm rfl rfl (by decide))) (l4 w hw), l5, by rw [e18]; exact l6⟩, by rw [e20]; exact hf _ _ (m1 _ (co_ne 212 106 hs hm rfl rfl (by decide))) hs, (hP.sf hS hf).cg (hr 30 (by decide))⟩
  rw [hr 33 (by decide)]
  exact hsb.keep hf (m1 _ (co_ne 11 106 hB1 hm rfl rfl (by decide))) (m1 _ (cl_ne hA 4 7 (by decide) (by decide) hB0 hm (by decide)))
theorem upd_ne {f : Nat → Int32} {k j : Nat} {a : Int32} (h : j ≠ k) : upd f k a j = f j := if_neg h
/-- a new monitor -/
theorem RMs.new {m mo nm nmb : Nat} {t : List Nat} {k att a b : Int32} (hM : RMs aC h b0 cm rh sg mu fm) (hk : ¬ k = 0) (hs : kx_ST aC h nm nmb t) (hb : nmb ≠ b0) (ho : (k = 1 ∧ h mo = some (.inr (7, ct_fs a b a.toInt64 1 0 0 nm att 0))) ∨ (k = 2 ∧ h mo = some (.inr (8, ga_fs a b 0 nm att 0)))) : RMs aC h b0 (rg_f cm m mo) (jr_up rh (12 + m) t) (wt_sg sg m k att a b) (wt_mu mu m k a) (va_up fm m (some mo)) := by
  intro i hi
  by_cases him : i = m
  · subst him
    right
    have e6 : wt_sg sg i k att a b 6 i = k := (upd_at : upd (sg 6) i k i = k)
    have e7 : wt_sg sg i k att a b 7 i = att := (upd_at : upd (sg 7) i att i = att)
    have e8 : wt_sg sg i k att a b 8 i = a := (upd_at : upd (sg 8) i a i = a)
    have e9 : wt_sg sg i k att a b 9 i = b := (upd_at : upd (sg 9) i b i = b)
    have e11 : wt_sg sg i k att a b 11 i = 1 := (upd_at : upd (sg 11) i 1 i = 1)
    have e12 : wt_sg sg i k att a b 12 i = 0 := (upd_at : upd (sg 12) i 0 i = 0)
    have e14 : wt_sg sg i k att a b 14 i = 0 := (upd_at : upd (sg 14) i 0 i = 0)
    have em : wt_mu mu i k a i = if k = 1 then a.toInt64 else 0 := by
      unfold wt_mu vp_updL
      rw [if_pos rfl]
    refine ⟨by rw [e6]; exact hk, by unfold va_up; rw [if_pos rfl, rg_s], nm, nmb, by rw [jr_up_s]; exact hs, hb, ?_⟩
    rw [rg_s, e6, e7, e8, e9, e11, e12, e14, em]
    rcases ho with ⟨rfl, ho⟩ | ⟨rfl, ho⟩
    · exact Or.inl ⟨rfl, 0, by rw [if_pos rfl]; exact ho, fun q => absurd rfl q⟩
    · exact Or.inr ⟨rfl, 0, ho, by rw [if_neg (by decide)]; rfl⟩
  · have e6 : wt_sg sg m k att a b 6 i = sg 6 i := (upd_ne him : upd (sg 6) m k i = sg 6 i)
    have e7 : wt_sg sg m k att a b 7 i = sg 7 i := (upd_ne him : upd (sg 7) m att i = sg 7 i)
    have e8 : wt_sg sg m k att a b 8 i = sg 8 i := (upd_ne him : upd (sg 8) m a i = sg 8 i)
    have e9 : wt_sg sg m k att a b 9 i = sg 9 i := (upd_ne him : upd (sg 9) m b i = sg 9 i)
    have e11 : wt_sg sg m k att a b 11 i = sg 11 i := (upd_ne him : upd (sg 11) m 1 i = sg 11 i)
    have e12 : wt_sg sg m k att a b 12 i = sg 12 i := (upd_ne him : upd (sg 12) m 0 i = sg 12 i)
    have e13 : wt_sg sg m k att a b 13 i = sg 13 i := rfl
    have e14 : wt_sg sg m k att a b 14 i = sg 14 i := (upd_ne him : upd (sg 14) m 0 i = sg 14 i)
    have em : wt_mu mu m k a i = mu i := by
      unfold wt_mu vp_updL
      rw [if_neg him]
    have ef : va_up fm m (some mo) i = fm i := by
      unfold va_up
      rw [if_neg him]
    rw [e6, ef]
    rcases hM i hi with q | ⟨q, q1, nm', nmb', a1, a2, a3⟩
    · exact Or.inl q
    · refine Or.inr ⟨q, by rw [rg_n him]; exact q1, nm', nmb', by rw [jr_up_n (by omega)]; exact a1, a2, ?_⟩
      rw [rg_n him, e6, e7, e8, e9, e11, e12, e13, e14, em]
      exact a3
theorem RMs.le (hM : RMs aC h b0 cm rh sg mu fm) {i : Nat} (hi : i < 6) : (sg 6 i ≤ 0 ∧ sg 6 i = 0 ∧ fm i = none) ∨ (¬ sg 6 i ≤ 0 ∧ ¬ sg 6 i = 0 ∧ fm i = some (cm i)) := by
  rcases hM i hi with ⟨q, q1⟩ | ⟨q, q1, q2⟩
  · exact Or.inl ⟨by rw [q]; decide, q, q1⟩
  · refine Or.inr ⟨?_, q, q1⟩
    rcases q2.kind with q | q <;> rw [q] <;> decide
def nb_f (sg : Nat → Nat → Int32) (x : Int32) : Int32 := if px_at 12 (px_b (sg 2)) x = true then (match px_mf (sg 6) 6 0 with | some m => nI m | none => -4) else -2
theorem bs_number {x : Int32} (hC : RC aC h r0 b0 ca cv cp cm nn rh sg mu io bm nq nl lp fb fq fm) : jj_Ct l D aC base yn_BS_numberForMonitorOf yb_BS_numberForMonitorOf 3 (some .int) 1 0 0 [.ref (ca 0), .int x] h (fun q h' => q = some (.int (nb_f sg x)) ∧ h' = h) := by
  obtain ⟨hx, -, hb, hB, -, -, hm, hM, -⟩ := hC
  refine jj_start (tb := tb_BS_numberForMonitorOf) (by decide) tg_BS_numberForMonitorOf (Nat.le_of_ble_eq_true rfl) ?_
  intro p e s m args below meth cc C
  have loop : ∀ (k i : Nat) (v : Int32), v = nI i → i + k = 6 → px_at 12 (px_b (sg 2)) x = true → px_mf (sg 6) k i = px_mf (sg 6) 6 0 → jj_J p l e (jj_rm 1 0 0) s m args below meth cc D base 3 (MQ below (jj_Q D base (fun q h' => q = some (.int (nb_f sg x)) ∧ h' = h)) args s 0 0 (jj_A base)) 13 [(0, .ref (ca 0)), (1, .int x), (2, .int v)] [] h 0 0 := by
    intro k
    induction k with
    | zero =>
      intro i v hv hk hx9 hg
      have hi : i = 6 := by omega
      subst hi
      refine jj_go C 2 rfl ?_
      refine jj_if C rfl (fun _ => ?_) (fun z => absurd (by rw [hv]; decide) z)
      refine jj_go C 1 rfl ?_
      have e : nb_f sg x = -4 := by
        unfold nb_f
        rw [if_pos hx9, ← hg]
        rfl
      exact jj_iret C rfl rfl rfl (Nat.le_of_ble_eq_true rfl) (Nat.le_of_ble_eq_true rfl) ⟨by rw [e], rfl⟩
    | succ k ih =>
      intro i v hv hk hx9 hg
      have hlt : i < 6 := by omega
      refine jj_go C 2 rfl ?_
      refine jj_if C rfl (fun z => absurd z (by rw [hv]; exact nI_ge (b := 6) hlt (by decide))) (fun _ => ?_)
      refine jj_go C 1 rfl ?_
      refine jj_getf C rfl fl_BS_34 hx rfl ?_
      refine jj_go C 1 rfl ?_
      refine jj_aald C 7 rfl hm rfl hv hlt (by decide) ?_
      have hg2 : (if sg 6 i ≤ 0 then some i else px_mf (sg 6) k (i + 1)) = px_mf (sg 6) 6 0 := hg
      rcases hM.le hlt with ⟨q1, -, q2⟩ | ⟨q1, -, q2⟩
      · rw [q2]
        rw [if_pos q1] at hg2
        refine jj_go C 2 rfl ?_
        have e : nb_f sg x = nI i := by
          unfold nb_f
          rw [if_pos hx9, ← hg2]
        exact jj_iret C rfl rfl rfl (Nat.le_of_ble_eq_true rfl) (Nat.le_of_ble_eq_true rfl) ⟨by rw [e, hv], rfl⟩
      · rw [q2]
        rw [if_neg q1] at hg2
        refine jj_go C 3 rfl ?_
        exact ih (i + 1) (v + 1) (by rw [hv, nI_1]) (by omega) hx9 hg2
  refine jj_go C 2 rfl ?_
  refine jj_callV C rfl ml_BS_89 wd_528 hx rfl se_BS_BS_beanAt (bs_beanAt (x := x) hx hb) (rest := []) rfl rfl ⟨Nat.le_of_ble_eq_true rfl, Nat.le_of_ble_eq_true rfl⟩ (Nat.le_of_ble_eq_true rfl) (Nat.le_of_ble_eq_true rfl) (Nat.le_of_ble_eq_true rfl) ?_
  rintro q9 h9 ⟨rfl, hh9⟩
  rw [hh9]
  rcases hB.at x with ⟨q1, q2⟩ | ⟨i, be, hi, hxi, hp, q1, -, q2⟩
  · rw [q1]
    have e : nb_f sg x = -2 := by
      unfold nb_f
      rw [if_neg (by rw [q2]; decide)]
    refine jj_go C 2 rfl ?_
    exact jj_iret C rfl rfl rfl (Nat.le_of_ble_eq_true rfl) (Nat.le_of_ble_eq_true rfl) ⟨by rw [e], rfl⟩
  · rw [q1]
    refine jj_go C 3 rfl ?_
    exact loop 6 0 0 rfl rfl q2 rfl
/-- what the class gives for a new monitor -/
def wc_P (aC : Nat → ClassId) (h : jjHp) (r0 b0 : Nat) (ca cv cp cm : Nat → Nat) (nn rh : Nat → List Nat) (sg : Nat → Nat → Int32) (mu : Nat → Int64) (io : Nat → Int32) (bm nq nl lp : Nat) (fb fq fm : Nat → Option Nat) (k x att a b : Int32) (q : Option Value) (h' : jjHp) : Prop := (px_at 12 (px_b (sg 2)) x = false ∧ q = some (.int (-2)) ∧ h' = h) ∨ (∃ j, x = nI j ∧ j < 12 ∧ ¬ sg 2 j = 0 ∧ ((px_mf (sg 6) 6 0 = none ∧ q = some (.int (-4)) ∧ h' = h) ∨ ∃ m mo, px_mf (sg 6) 6 0 = some m ∧ m < 6 ∧ q = some (.int (nI m)) ∧ RC aC h' r0 b0 ca cv cp (rg_f cm m mo) nn (jr_up rh (12 + m) (rh j)) (wt_sg sg m k att a b) (wt_mu mu m k a) io bm nq nl lp fb fq (va_up fm m (some mo)) ∧ RD (wt_sg sg m k att a b) cv cp (rg_f cm m mo) ∧ jj_fr [ca 5] h h'))
theorem RD.new {m mo : Nat} {k att a b : Int32} (hD : RD sg cv cp cm) (hM : RMs aC h b0 cm rh sg mu fm) (hmo : h mo = none) : RD (wt_sg sg m k att a b) cv cp (rg_f cm m mo) := by
  refine ⟨hD.1, fun i j hi hj pi pj hij => ?_⟩
  have old : ∀ i, i < 6 → ¬ sg 6 i = 0 → cm i ≠ mo := by
    intro i hi hp q
    rcases hM i hi with ⟨z, -⟩ | ⟨-, -, nm, nmb, -, -, ⟨-, T, z, -⟩ | ⟨-, sd, z, -⟩⟩
    · exact hp z
    · rw [q, hmo] at z
      cases z
    · rw [q, hmo] at z
      cases z
  have e6 : ∀ i, i ≠ m → wt_sg sg m k att a b 6 i = sg 6 i := fun i him => (upd_ne him : upd (sg 6) m k i = sg 6 i)
  by_cases him : i = m
  · have hjm : j ≠ m := fun q => hij (him.trans q.symm)
    rw [e6 j hjm] at pj
    rw [him, rg_s, rg_n hjm]
    exact Ne.symm (old j hj pj)
  · rw [e6 i him] at pi
    rw [rg_n him]
    by_cases hjm : j = m
    · rw [hjm, rg_s]
      exact old i hi pi
    · rw [e6 j hjm] at pj
      rw [rg_n hjm]
      exact hD.2 i j hi hj pi pj hij
theorem bs_counter_f {x att a b : Int32} (hb : px_at 5 (fun _ => true) att = false ∨ b < 0) : jj_Ct l D aC base yn_BS_counter yb_BS_counter 6 (some .int) 3 1 9 [.ref (ca 0), .int x, .int att, .int a, .int b] h (fun q h' => q = some (.int (-1)) ∧ h' = h) := by
  refine jj_start (tb := tb_BS_counter) (by decide) tg_BS_counter (Nat.le_of_ble_eq_true rfl) ?_
  intro p e s m args below meth cc C
  refine jj_go C 1 rfl ?_
  refine jj_callS C rfl ml_BS_93 wd_531 (bs_isAttribute (x := att)) (rest := []) rfl rfl ⟨Nat.le_of_ble_eq_true rfl, Nat.le_of_ble_eq_true rfl⟩ (Nat.le_of_ble_eq_true rfl) (Nat.le_of_ble_eq_true rfl) (Nat.le_of_ble_eq_true rfl) ?_
  rintro q9 h9 ⟨rfl, hh9⟩
  rw [hh9]
  cases ha : px_at 5 (fun _ => true) att with
  | false =>
    refine jj_if C rfl (fun _ => ?_) (fun z => absurd rfl z)
    refine jj_go C 1 rfl ?_
    exact jj_iret C rfl rfl rfl (Nat.le_of_ble_eq_true rfl) (Nat.le_of_ble_eq_true rfl) ⟨rfl, rfl⟩
  | true =>
    rcases hb with q | hb
    · rw [ha] at q
      cases q
    refine jj_if C rfl (fun z => absurd z (by decide)) (fun _ => ?_)
    refine jj_go C 1 rfl ?_
    refine jj_if C rfl (fun z => absurd hb (Int32.not_lt.mpr z)) (fun _ => ?_)
    refine jj_go C 1 rfl ?_
    exact jj_iret C rfl rfl rfl (Nat.le_of_ble_eq_true rfl) (Nat.le_of_ble_eq_true rfl) ⟨rfl, rfl⟩
theorem bs_gauge_f {x att a b : Int32} (hb : px_at 5 (fun _ => true) att = false ∨ ¬ a < b) : jj_Ct l D aC base yn_BS_gauge yb_BS_gauge 6 (some .int) 3 1 6 [.ref (ca 0), .int x, .int att, .int a, .int b] h (fun q h' => q = some (.int (-1)) ∧ h' = h) := by
  refine jj_start (tb := tb_BS_gauge) (by decide) tg_BS_gauge (Nat.le_of_ble_eq_true rfl) ?_
  intro p e s m args below meth cc C
  refine jj_go C 1 rfl ?_
  refine jj_callS C rfl ml_BS_93 wd_531 (bs_isAttribute (x := att)) (rest := []) rfl rfl ⟨Nat.le_of_ble_eq_true rfl, Nat.le_of_ble_eq_true rfl⟩ (Nat.le_of_ble_eq_true rfl) (Nat.le_of_ble_eq_true rfl) (Nat.le_of_ble_eq_true rfl) ?_
  rintro q9 h9 ⟨rfl, hh9⟩
  rw [hh9]
  cases ha : px_at 5 (fun _ => true) att with
  | false =>
    refine jj_if C rfl (fun _ => ?_) (fun z => absurd rfl z)
    refine jj_go C 1 rfl ?_
    exact jj_iret C rfl rfl rfl (Nat.le_of_ble_eq_true rfl) (Nat.le_of_ble_eq_true rfl) ⟨rfl, rfl⟩
  | true =>
    rcases hb with q | hb
    · rw [ha] at q
      cases q
    refine jj_if C rfl (fun z => absurd z (by decide)) (fun _ => ?_)
    refine jj_go C 2 rfl ?_
    refine jj_if C rfl (fun z => absurd z hb) (fun _ => ?_)
    refine jj_go C 1 rfl ?_
    exact jj_iret C rfl rfl rfl (Nat.le_of_ble_eq_true rfl) (Nat.le_of_ble_eq_true rfl) ⟨rfl, rfl⟩
theorem bs_counter_t {x a b : Int32} {i : Nat} (hA : jA aC) (hC : RC aC h r0 b0 ca cv cp cm nn rh sg mu io bm nq nl lp fb fq fm) (hD : RD sg cv cp cm) (hnn : ∀ i, i < 12 → ¬ sg 2 i = 0 → rh i = px_fo (nn i)) (hi : i < 5) (hb : ¬ b < 0) : jj_Ct l D aC base yn_BS_counter yb_BS_counter 6 (some .int) 3 1 9 [.ref (ca 0), .int x, .int (nI i), .int a, .int b] h (fun q h' => wc_P aC h r0 b0 ca cv cp cm nn rh sg mu io bm nq nl lp fb fq fm 1 x (nI i) a b q h') := by
  have hx := hC.1
  refine jj_start (tb := tb_BS_counter) (by decide) tg_BS_counter (Nat.le_of_ble_eq_true rfl) ?_
  intro p e s m args below meth cc C
  refine jj_go C 1 rfl ?_
  refine jj_callS C rfl ml_BS_93 wd_531 (bs_isAttribute (x := nI i)) (rest := []) rfl rfl ⟨Nat.le_of_ble_eq_true rfl, Nat.le_of_ble_eq_true rfl⟩ (Nat.le_of_ble_eq_true rfl) (Nat.le_of_ble_eq_true rfl) (Nat.le_of_ble_eq_true rfl) ?_
  rintro q9 h9 ⟨rfl, hh9⟩
  rw [hh9]
  rw [px_at_n hi (by decide)]
  refine jj_if C rfl (fun z => absurd z (by decide)) (fun _ => ?_)
  refine jj_go C 1 rfl ?_
  refine jj_if C rfl (fun _ => ?_) (fun z => absurd (Int32.not_lt.mp hb) z)
  refine jj_go C 2 rfl ?_
  refine jj_callV C rfl ml_BS_167 wd_744 hx rfl se_BS_BS_numberForMonitorOf (bs_number (x := x) hC) (rest := []) rfl rfl ⟨Nat.le_of_ble_eq_true rfl, Nat.le_of_ble_eq_true rfl⟩ (Nat.le_of_ble_eq_true rfl) (Nat.le_of_ble_eq_true rfl) (Nat.le_of_ble_eq_true rfl) ?_
  rintro q9 h9 ⟨rfl, hh9⟩
  rw [hh9]
  rcases hC.2.2.2.1.at x with ⟨-, q2⟩ | ⟨j, be, hj, hxj, hp, -, ⟨pt, V, B, c1, c2, -⟩, q2⟩
  · have e : nb_f sg x = -2 := by
      unfold nb_f
      rw [if_neg (by rw [q2]; decide)]
    rw [e]
    refine jj_go C 2 rfl ?_
    refine jj_if C rfl (fun _ => ?_) (fun z => absurd (by decide) z)
    refine jj_go C 1 rfl ?_
    exact jj_iret C rfl rfl rfl (Nat.le_of_ble_eq_true rfl) (Nat.le_of_ble_eq_true rfl) (Or.inl ⟨q2, rfl, rfl⟩)
  cases hmf : px_mf (sg 6) 6 0 with
  | none =>
    have e : nb_f sg x = -4 := by
      unfold nb_f
      rw [if_pos q2, hmf]
    rw [e]
    refine jj_go C 2 rfl ?_
    refine jj_if C rfl (fun _ => ?_) (fun z => absurd (by decide) z)
    refine jj_go C 1 rfl ?_
    exact jj_iret C rfl rfl rfl (Nat.le_of_ble_eq_true rfl) (Nat.le_of_ble_eq_true rfl) (Or.inr ⟨j, hxj, hj, hp, Or.inl ⟨hmf, rfl, rfl⟩⟩)
  | some mm =>
    have hmm := px_mf_lt 6 0 hmf
    have hm6 : mm < 6 := by omega
    have e : nb_f sg x = nI mm := by
      unfold nb_f
      rw [if_pos q2, hmf]
    rw [e]
    subst hxj
    refine jj_go C 2 rfl ?_
    refine jj_if C rfl (fun z => absurd z (nI_pos (by omega))) (fun _ => ?_)
    refine jj_go C 1 rfl ?_
    refine jj_getf C rfl fl_BS_34 hx rfl ?_
    refine jj_go C 1 rfl ?_
    refine jj_new C rfl nw_BS_171 (Nat.le_of_ble_eq_true rfl) (Nat.le_of_ble_eq_true rfl) (fun mo hmo => ?_)
    have hfN : jj_fr [] h (jj_up h mo (.inr (7, [.int 0, .int 0, .long 0, .int 0, .int 0, .int 0, .null, .int 0, .int 0]))) := jj_fr.rf.up (Or.inr hmo)
    have hmo1 : jj_up h mo (.inr (7, [.int 0, .int 0, .long 0, .int 0, .int 0, .int 0, .null, .int 0, .int 0])) mo = some (.inr (7, [.int 0, .int 0, .long 0, .int 0, .int 0, .int 0, .null, .int 0, .int 0])) := jj_up_s
    refine jj_eq (h' := jj_up h mo (.inr (7, [.int 0, .int 0, .long 0, .int 0, .int 0, .int 0, .null, .int 0, .int 0]))) rfl rfl rfl rfl ?_
    generalize jj_up h mo (.inr (7, [.int 0, .int 0, .long 0, .int 0, .int 0, .int 0, .null, .int 0, .int 0])) = h1 at hfN hmo1 ⊢
    have hC1 := hC.new hA hfN
    obtain ⟨-, fbj⟩ : True ∧ ∃ be, fb j = some be ∧ RB1 aC h1 b0 r0 cv cp nn sg j be := by
      refine ⟨trivial, ?_⟩
      rcases hC1.2.2.2.1 j hj with ⟨q, -⟩ | ⟨-, be', z1, z2⟩
      · exact absurd q hp
      · exact ⟨be', z1, z2⟩
    obtain ⟨be1, hfb, pt1, V1, B1, d1, d2, -⟩ := fbj
    obtain ⟨tx, txb, st, en, Sf, Ef, fm9, fmb9, p1, p2, p3, n1, n2, n3, n4⟩ := d2
    refine jj_go C 2 rfl ?_
    refine jj_getf C rfl fl_BS_18 hC1.1 rfl ?_
    refine jj_go C 1 rfl ?_
    refine jj_aald C 5 rfl hC1.2.2.1 rfl rfl hj (by decide) ?_
    rw [hfb]
    refine jj_getf C rfl fl_BS_147 d1 rfl ?_
    refine jj_getf C rfl fl_BS_70 p1.1 rfl ?_
    refine jj_go C 3 rfl ?_
    refine jj_callI C rfl ml_BS_173 wd_749 rfl (ct_init (nm := fm9) (att := nI i) (a := a) (b := b) hmo1) (rest := [.ref mo, .int (nI mm), .ref (ca 5)]) rfl rfl ⟨(Nat.le_of_ble_eq_true rfl), (Nat.le_of_ble_eq_true rfl)⟩ (Nat.le_of_ble_eq_true rfl) (Nat.le_of_ble_eq_true rfl) (Nat.le_of_ble_eq_true rfl) ?_
    rintro q9 h2 ⟨rfl, hmo2, hf2⟩
    have hfM : jj_fr [] h h2 := fun c e9 _ hc => hf2 c e9 (fun q => by rw [List.mem_singleton.mp q, hmo] at hc; cases hc) (hfN c e9 List.not_mem_nil hc)
    have hC2 := hC.new hA hfM
    have hst : kx_ST aC h2 fm9 fmb9 (px_fo (nn j)) := by
      obtain ⟨x1, x2, x3, x4, x5, x6⟩ := p3
      refine (show kx_ST aC h1 fm9 fmb9 (px_fo (nn j)) from ⟨x1, x2, x3, x4, x5, x6⟩).keep hf2 (fun q => ?_) (fun q => ?_)
      · rw [List.mem_singleton.mp q, hmo1] at x4
        cases x4
      · rw [List.mem_singleton.mp q, hmo1] at x5
        cases x5
    refine jj_aastO C 7 (n := 6) (f := fm) (j := mm) (v := mo) rfl hC2.2.2.2.2.2.2.1 rfl hmo2 rfl (by decide) rfl hm6 (by decide) ?_
    obtain ⟨hf3, hS3, hM3, mk⟩ := hC2.mons hA (fm' := va_up fm mm (some mo))
    have hst3 := hst.sf n2 hS3 hf3
    have hmo3 := hf3 _ _ (fun q => co_ne 7 106 hmo2 hC2.2.2.2.2.2.2.1 rfl rfl (by decide) (List.mem_singleton.mp q)) hmo2
    have hC3 := mk (sg' := wt_sg sg mm 1 (nI i) a b) (cm' := rg_f cm mm mo) (rh' := jr_up rh (12 + mm) (rh j)) (mu' := wt_mu mu mm 1 a) (fun k hk => by
      unfold wt_sg va_up
      rw [if_neg (by intro q; rw [q] at hk; revert hk; decide), if_neg (by intro q; rw [q] at hk; revert hk; decide), if_neg (by intro q; rw [q] at hk; revert hk; decide), if_neg (by intro q; rw [q] at hk; revert hk; decide), if_neg (by intro q; rw [q] at hk; revert hk; decide), if_neg (by intro q; rw [q] at hk; revert hk; decide), if_neg (by intro q; rw [q] at hk; revert hk; decide)]) (fun k hk => jr_up_n (by omega)) (by
      rw [hnn j hj hp]
      exact hM3.new (by decide) hst3 n2 (Or.inl ⟨rfl, hmo3⟩))
    refine jj_eq (h' := jj_up h2 (ca 5) (rfA (aC 7) 6 (va_up fm mm (some mo)))) rfl rfl rfl rfl ?_
    generalize jj_up h2 (ca 5) (rfA (aC 7) 6 (va_up fm mm (some mo))) = h3 at hf3 hC3 ⊢
    refine jj_go C 1 rfl ?_
    exact jj_iret C rfl rfl rfl (Nat.le_of_ble_eq_true rfl) (Nat.le_of_ble_eq_true rfl) (Or.inr ⟨j, rfl, hj, hp, Or.inr ⟨mm, mo, hmf, hm6, rfl, hC3, hD.new hC.2.2.2.2.2.2.2.1 hmo, (hfM.mono (fun c hc => by cases hc)).tr hf3⟩⟩)
theorem bs_gauge_t {x a b : Int32} {i : Nat} (hA : jA aC) (hC : RC aC h r0 b0 ca cv cp cm nn rh sg mu io bm nq nl lp fb fq fm) (hD : RD sg cv cp cm) (hnn : ∀ i, i < 12 → ¬ sg 2 i = 0 → rh i = px_fo (nn i)) (hi : i < 5) (hb : a < b) : jj_Ct l D aC base yn_BS_gauge yb_BS_gauge 6 (some .int) 3 1 6 [.ref (ca 0), .int x, .int (nI i), .int a, .int b] h (fun q h' => wc_P aC h r0 b0 ca cv cp cm nn rh sg mu io bm nq nl lp fb fq fm 2 x (nI i) a b q h') := by
  have hx := hC.1
  refine jj_start (tb := tb_BS_gauge) (by decide) tg_BS_gauge (Nat.le_of_ble_eq_true rfl) ?_
  intro p e s m args below meth cc C
  refine jj_go C 1 rfl ?_
  refine jj_callS C rfl ml_BS_93 wd_531 (bs_isAttribute (x := nI i)) (rest := []) rfl rfl ⟨Nat.le_of_ble_eq_true rfl, Nat.le_of_ble_eq_true rfl⟩ (Nat.le_of_ble_eq_true rfl) (Nat.le_of_ble_eq_true rfl) (Nat.le_of_ble_eq_true rfl) ?_
  rintro q9 h9 ⟨rfl, hh9⟩
  rw [hh9]
  rw [px_at_n hi (by decide)]
  refine jj_if C rfl (fun z => absurd z (by decide)) (fun _ => ?_)
  refine jj_go C 2 rfl ?_
  refine jj_if C rfl (fun _ => ?_) (fun z => absurd hb z)
  refine jj_go C 2 rfl ?_
  refine jj_callV C rfl ml_BS_167 wd_744 hx rfl se_BS_BS_numberForMonitorOf (bs_number (x := x) hC) (rest := []) rfl rfl ⟨Nat.le_of_ble_eq_true rfl, Nat.le_of_ble_eq_true rfl⟩ (Nat.le_of_ble_eq_true rfl) (Nat.le_of_ble_eq_true rfl) (Nat.le_of_ble_eq_true rfl) ?_
  rintro q9 h9 ⟨rfl, hh9⟩
  rw [hh9]
  rcases hC.2.2.2.1.at x with ⟨-, q2⟩ | ⟨j, be, hj, hxj, hp, -, ⟨pt, V, B, c1, c2, -⟩, q2⟩
  · have e : nb_f sg x = -2 := by
      unfold nb_f
      rw [if_neg (by rw [q2]; decide)]
    rw [e]
    refine jj_go C 2 rfl ?_
    refine jj_if C rfl (fun _ => ?_) (fun z => absurd (by decide) z)
    refine jj_go C 1 rfl ?_
    exact jj_iret C rfl rfl rfl (Nat.le_of_ble_eq_true rfl) (Nat.le_of_ble_eq_true rfl) (Or.inl ⟨q2, rfl, rfl⟩)
  cases hmf : px_mf (sg 6) 6 0 with
  | none =>
    have e : nb_f sg x = -4 := by
      unfold nb_f
      rw [if_pos q2, hmf]
    rw [e]
    refine jj_go C 2 rfl ?_
    refine jj_if C rfl (fun _ => ?_) (fun z => absurd (by decide) z)
    refine jj_go C 1 rfl ?_
    exact jj_iret C rfl rfl rfl (Nat.le_of_ble_eq_true rfl) (Nat.le_of_ble_eq_true rfl) (Or.inr ⟨j, hxj, hj, hp, Or.inl ⟨hmf, rfl, rfl⟩⟩)
  | some mm =>
    have hmm := px_mf_lt 6 0 hmf
    have hm6 : mm < 6 := by omega
    have e : nb_f sg x = nI mm := by
      unfold nb_f
      rw [if_pos q2, hmf]
    rw [e]
    subst hxj
    refine jj_go C 2 rfl ?_
    refine jj_if C rfl (fun z => absurd z (nI_pos (by omega))) (fun _ => ?_)
    refine jj_go C 1 rfl ?_
    refine jj_getf C rfl fl_BS_34 hx rfl ?_
    refine jj_go C 1 rfl ?_
    refine jj_new C rfl nw_BS_176 (Nat.le_of_ble_eq_true rfl) (Nat.le_of_ble_eq_true rfl) (fun mo hmo => ?_)
    have hfN : jj_fr [] h (jj_up h mo (.inr (8, [.int 0, .int 0, .int 0, .null, .int 0, .int 0]))) := jj_fr.rf.up (Or.inr hmo)
    have hmo1 : jj_up h mo (.inr (8, [.int 0, .int 0, .int 0, .null, .int 0, .int 0])) mo = some (.inr (8, [.int 0, .int 0, .int 0, .null, .int 0, .int 0])) := jj_up_s
    refine jj_eq (h' := jj_up h mo (.inr (8, [.int 0, .int 0, .int 0, .null, .int 0, .int 0]))) rfl rfl rfl rfl ?_
    generalize jj_up h mo (.inr (8, [.int 0, .int 0, .int 0, .null, .int 0, .int 0])) = h1 at hfN hmo1 ⊢
    have hC1 := hC.new hA hfN
    obtain ⟨-, fbj⟩ : True ∧ ∃ be, fb j = some be ∧ RB1 aC h1 b0 r0 cv cp nn sg j be := by
      refine ⟨trivial, ?_⟩
      rcases hC1.2.2.2.1 j hj with ⟨q, -⟩ | ⟨-, be', z1, z2⟩
      · exact absurd q hp
      · exact ⟨be', z1, z2⟩
    obtain ⟨be1, hfb, pt1, V1, B1, d1, d2, -⟩ := fbj
    obtain ⟨tx, txb, st, en, Sf, Ef, fm9, fmb9, p1, p2, p3, n1, n2, n3, n4⟩ := d2
    refine jj_go C 2 rfl ?_
    refine jj_getf C rfl fl_BS_18 hC1.1 rfl ?_
    refine jj_go C 1 rfl ?_
    refine jj_aald C 5 rfl hC1.2.2.1 rfl rfl hj (by decide) ?_
    rw [hfb]
    refine jj_getf C rfl fl_BS_147 d1 rfl ?_
    refine jj_getf C rfl fl_BS_70 p1.1 rfl ?_
    refine jj_go C 3 rfl ?_
    refine jj_callI C rfl ml_BS_178 wd_793 rfl (ga_init (nm := fm9) (att := nI i) (a := a) (b := b) hmo1) (rest := [.ref mo, .int (nI mm), .ref (ca 5)]) rfl rfl ⟨(Nat.le_of_ble_eq_true rfl), (Nat.le_of_ble_eq_true rfl)⟩ (Nat.le_of_ble_eq_true rfl) (Nat.le_of_ble_eq_true rfl) (Nat.le_of_ble_eq_true rfl) ?_
    rintro q9 h2 ⟨rfl, hmo2, hf2⟩
    have hfM : jj_fr [] h h2 := fun c e9 _ hc => hf2 c e9 (fun q => by rw [List.mem_singleton.mp q, hmo] at hc; cases hc) (hfN c e9 List.not_mem_nil hc)
    have hC2 := hC.new hA hfM
    have hst : kx_ST aC h2 fm9 fmb9 (px_fo (nn j)) := by
      obtain ⟨x1, x2, x3, x4, x5, x6⟩ := p3
      refine (show kx_ST aC h1 fm9 fmb9 (px_fo (nn j)) from ⟨x1, x2, x3, x4, x5, x6⟩).keep hf2 (fun q => ?_) (fun q => ?_)
      · rw [List.mem_singleton.mp q, hmo1] at x4
        cases x4
      · rw [List.mem_singleton.mp q, hmo1] at x5
        cases x5
    refine jj_aastO C 7 (n := 6) (f := fm) (j := mm) (v := mo) rfl hC2.2.2.2.2.2.2.1 rfl hmo2 rfl (by decide) rfl hm6 (by decide) ?_
    obtain ⟨hf3, hS3, hM3, mk⟩ := hC2.mons hA (fm' := va_up fm mm (some mo))
    have hst3 := hst.sf n2 hS3 hf3
    have hmo3 := hf3 _ _ (fun q => co_ne 8 106 hmo2 hC2.2.2.2.2.2.2.1 rfl rfl (by decide) (List.mem_singleton.mp q)) hmo2
    have hC3 := mk (sg' := wt_sg sg mm 2 (nI i) a b) (cm' := rg_f cm mm mo) (rh' := jr_up rh (12 + mm) (rh j)) (mu' := wt_mu mu mm 2 a) (fun k hk => by
      unfold wt_sg va_up
      rw [if_neg (by intro q; rw [q] at hk; revert hk; decide), if_neg (by intro q; rw [q] at hk; revert hk; decide), if_neg (by intro q; rw [q] at hk; revert hk; decide), if_neg (by intro q; rw [q] at hk; revert hk; decide), if_neg (by intro q; rw [q] at hk; revert hk; decide), if_neg (by intro q; rw [q] at hk; revert hk; decide), if_neg (by intro q; rw [q] at hk; revert hk; decide)]) (fun k hk => jr_up_n (by omega)) (by
      rw [hnn j hj hp]
      exact hM3.new (by decide) hst3 n2 (Or.inr ⟨rfl, hmo3⟩))
    refine jj_eq (h' := jj_up h2 (ca 5) (rfA (aC 7) 6 (va_up fm mm (some mo)))) rfl rfl rfl rfl ?_
    generalize jj_up h2 (ca 5) (rfA (aC 7) 6 (va_up fm mm (some mo))) = h3 at hf3 hC3 ⊢
    refine jj_go C 1 rfl ?_
    exact jj_iret C rfl rfl rfl (Nat.le_of_ble_eq_true rfl) (Nat.le_of_ble_eq_true rfl) (Or.inr ⟨j, rfl, hj, hp, Or.inr ⟨mm, mo, hmf, hm6, rfl, hC3, hD.new hC.2.2.2.2.2.2.2.1 hmo, (hfM.mono (fun c hc => by cases hc)).tr hf3⟩⟩)
end PL
