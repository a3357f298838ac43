/-! The class's public methods: write, set, unset, get, selected, notice, listen -/
/-- what a cell is, without its class -/
def cK (e : va_E) : Nat := match e with
  | .inr (ci, _) => ci
  | .inl (_, n, .inl _) => 200 + n
  | .inl (_, n, .inr (.inl _)) => 1000 + n
  | .inl (_, n, .inr (.inr (.inl _))) => 2000 + n
  | .inl (_, n, .inr (.inr (.inr (.inl _)))) => 3000 + n
  | .inl (_, n, .inr (.inr (.inr (.inr _)))) => 100 + n
theorem co_ne {h : jjHp} {a b : Nat} {e e' : va_E} (k k' : Nat) (h1 : h a = some e) (h2 : h b = some e') (e1 : cK e = k) (e2 : cK e' = k') (hk : k ≠ k') : a ≠ b := by
  intro q
  rw [q, h2] at h1
  cases h1
  exact hk (e1.symm.trans e2)
theorem cl_ne {aC : Nat → ClassId} {h : jjHp} {a b n n' : Nat} {d d'} (hA : jA aC) (i j : Nat) (hi : i < 8) (hj : j < 8) (h1 : h a = some (.inl (aC i, n, d))) (h2 : h b = some (.inl (aC j, n', d'))) (hij : i ≠ j) : a ≠ b := by
  intro q
  rw [q, h2] at h1
  have e := congrArg (fun z => match z with | some (.inl (k, _)) => some k | _ => none) h1
  have e : some (aC j) = some (aC i) := e
  exact hij (hA i j hi hj (Option.some.inj e).symm)
theorem bz_o {aC : Nat → ClassId} {r0 c ci : Nat} {fs : List Value} (hi : ci ≠ 1 ∧ ci ≠ 3 ∧ ci ≠ 4 ∧ ci ≠ 10) : bz aC r0 c (.inr (ci, fs)) := ⟨fun k f q => (by cases q; exact hi), fun k n d q => (by cases q)⟩
theorem bz_a {aC : Nat → ClassId} {r0 c k n : Nat} {d} (hA : jA aC) (hk : k < 8) (h4 : k ≠ 4) (hn : n ≠ 26) : bz aC r0 c (.inl (aC k, n, d)) := ⟨fun k f q => (by cases q), fun k' n' d' q => (by
  cases q
  exact ⟨fun q2 => h4 (hA k 4 hk (by decide) q2), fun q2 => absurd q2 hn⟩)⟩
section SF2
variable {aC : Nat → ClassId} {h : jjHp} {r0 b0 : Nat} {S : List Nat}
theorem SF.nil {n : Nat} {d} (hb : h b0 = some (.inl (aC 4, n, d))) : SF aC h r0 b0 [] := ⟨⟨n, d, hb⟩, fun _ q => (by cases q)⟩
theorem SF.cons {c : Nat} {e : va_E} (hS : SF aC h r0 b0 S) (hc : h c = some e) (hz : bz aC r0 c e) : SF aC h r0 b0 (c :: S) := ⟨hS.1, fun c' q => by
  rcases List.mem_cons.mp q with q | q
  · right
    intro e' he'
    rw [q, hc] at he'
    cases he'
    rw [q]
    exact hz
  · exact hS.2 c' q⟩
theorem SF.buf (hS : SF aC h r0 b0 S) : SF aC h r0 b0 (b0 :: S) := ⟨hS.1, fun c' q => by
  rcases List.mem_cons.mp q with q | q
  · exact Or.inl q
  · exact hS.2 c' q⟩
end SF2
/-- the cells of beans and monitors that change are not one another's -/
def RD (sg : Nat → Nat → Int32) (cv cp cm : Nat → Nat) : Prop := (∀ i j, i < 12 → j < 12 → ¬ sg 2 i = 0 → ¬ sg 2 j = 0 → i ≠ j → cv i ≠ cv j ∧ cp i ≠ cp j) ∧ ∀ i j, i < 6 → j < 6 → ¬ sg 6 i = 0 → ¬ sg 6 j = 0 → i ≠ j → cm i ≠ cm j
section PB
variable {l : Launch} {D : va_G} {aC : Nat → ClassId} {base : Nat} {h : jjHp} {r0 b0 : Nat} {ca cv cp cm : Nat → Nat} {nn rh : Nat → List Nat} {sg : Nat → Nat → Int32} {mu : Nat → Int64} {io : Nat → Int32} {bm nq nl lp : Nat} {fb fq fm : Nat → Option Nat}
theorem RC.sb (hC : RC aC h r0 b0 ca cv cp cm nn rh sg mu io bm nq nl lp fb fq fm) : ∃ f fs, h b0 = some (.inl (aC 4, bm, .inl f)) ∧ h (ca 1) = some (.inr (11, fs)) := by
  obtain ⟨-, ⟨ml, f, h1, h2, -⟩, -⟩ := hC
  exact ⟨f, _, h2, h1⟩
/-- beans and monitors keep off cells of these kinds -/
theorem RC.off (hC : RC aC h r0 b0 ca cv cp cm nn rh sg mu io bm nq nl lp fb fq fm) {c : Nat} {e : va_E} (hc : h c = some e) (h5 : cK e ≠ 205) (h7 : cK e ≠ 7 ∧ cK e ≠ 8) : (∀ i, i < 12 → ¬ sg 2 i = 0 → cv i ≠ c ∧ cp i ≠ c) ∧ ∀ i, i < 6 → ¬ sg 6 i = 0 → cm i ≠ c := by
  obtain ⟨-, -, -, hB, -, -, -, hM, -⟩ := hC
  refine ⟨fun i hi hp => ?_, fun i hi hp => ?_⟩
  · rcases hB i hi with ⟨q, -⟩ | ⟨-, be, -, pt, V, B, -, -, a3, a4, -⟩
    · exact absurd q hp
    · exact ⟨co_ne 205 _ a3 hc rfl rfl (Ne.symm h5), co_ne 205 _ a4 hc rfl rfl (Ne.symm h5)⟩
  · rcases hM i hi with ⟨q, -⟩ | ⟨-, -, nm, nmb, -, -, a3⟩
    · exact absurd q hp
    · rcases a3 with ⟨-, T, b2, -⟩ | ⟨-, sd, b2, -⟩
      · exact co_ne 7 _ b2 hc rfl rfl (Ne.symm h7.1)
      · exact co_ne 8 _ b2 hc rfl rfl (Ne.symm h7.2)
theorem RC.offb (hC : RC aC h r0 b0 ca cv cp cm nn rh sg mu io bm nq nl lp fb fq fm) (hA : jA aC) : (∀ i, i < 12 → ¬ sg 2 i = 0 → cv i ≠ b0 ∧ cp i ≠ b0) ∧ ∀ i, i < 6 → ¬ sg 6 i = 0 → cm i ≠ b0 := by
  obtain ⟨f, fs, hb, -⟩ := hC.sb
  obtain ⟨-, -, -, hB, -, -, -, hM, -⟩ := hC
  refine ⟨fun i hi hp => ?_, fun i hi hp => ?_⟩
  · rcases hB i hi with ⟨q, -⟩ | ⟨-, be, -, pt, V, B, -, -, a3, a4, -⟩
    · exact absurd q hp
    · exact ⟨cl_ne hA 0 4 (by decide) (by decide) a3 hb (by decide), cl_ne hA 1 4 (by decide) (by decide) a4 hb (by decide)⟩
  · rcases hM i hi with ⟨q, -⟩ | ⟨-, -, nm, nmb, -, -, a3⟩
    · exact absurd q hp
    · rcases a3 with ⟨-, T, b2, -⟩ | ⟨-, sd, b2, -⟩
      · exact fun q => by rw [q, hb] at b2; cases b2
      · exact fun q => by rw [q, hb] at b2; cases b2
theorem RBs.at (hB : RBs aC h b0 r0 cv cp nn sg fb) (x : Int32) : (bs_at fb 12 x = none ∧ px_at 12 (px_b (sg 2)) x = false) ∨ ∃ i be, i < 12 ∧ x = nI i ∧ ¬ sg 2 i = 0 ∧ bs_at fb 12 x = some be ∧ RB1 aC h b0 r0 cv cp nn sg i be ∧ px_at 12 (px_b (sg 2)) x = true := by
  by_cases h0 : x < 0
  · exact Or.inl ⟨if_pos h0, px_at_neg h0⟩
  obtain ⟨j, hj, rfl⟩ := nI_of h0
  by_cases h12 : j < 12
  · rcases hB j h12 with ⟨q1, q2⟩ | ⟨q1, be, q2, q3⟩
    · refine Or.inl ⟨by rw [bs_at_n h12 (by decide), q2], ?_⟩
      rw [px_at_n h12 (by decide)]
      simp [px_b, q1]
    · refine Or.inr ⟨j, be, h12, rfl, q1, by rw [bs_at_n h12 (by decide), q2], q3, ?_⟩
      rw [px_at_n h12 (by decide)]
      simp [px_b, q1]
  · have hge : nI 12 ≤ nI j := nI_le (by omega) hj
    refine Or.inl ⟨?_, px_at_ge hge⟩
    unfold bs_at
    rw [if_neg h0, if_pos hge]
theorem bs_get {x a : Int32} (hC : RC aC h r0 b0 ca cv cp cm nn rh sg mu io bm nq nl lp fb fq fm) : jj_Ct l D aC base yn_BS_get yb_BS_get 4 (some .int) 1 0 0 [.ref (ca 0), .int x, .int a] h (fun q h' => q = some (.int (if px_slot (sg 2) x a = true then (if sg 4 (5 * x.toNatClampNeg + a.toNatClampNeg) = 0 then 0 else sg 3 (5 * x.toNatClampNeg + a.toNatClampNeg)) else 0)) ∧ h' = h) := by
  obtain ⟨hx, -, hb, hB, -⟩ := hC
  refine jj_start (tb := tb_BS_get) (by decide) tg_BS_get (Nat.le_of_ble_eq_true rfl) ?_
  intro p e s m args below meth cc C
  refine jj_go C 2 rfl ?_
  refine jj_callV C rfl ml_BS_89 wd_528 hx rfl se_BS_BS_beanAt (bs_beanAt (x := x) hx hb) (rest := []) rfl rfl ⟨Nat.le_of_ble_eq_true rfl, Nat.le_of_ble_eq_true rfl⟩ (Nat.le_of_ble_eq_true rfl) (Nat.le_of_ble_eq_true rfl) (Nat.le_of_ble_eq_true rfl) ?_
  rintro q9 h9 ⟨rfl, hh9⟩
  rw [hh9]
  rcases hB.at x with ⟨q1, q2⟩ | ⟨i, be, hi, hxi, hp, q1, ⟨pt, V, B, a1, a2, a3, a4, a5⟩, q2⟩
  · rw [q1]
    refine jj_go C 4 rfl ?_
    exact jj_iret C rfl rfl rfl (Nat.le_of_ble_eq_true rfl) (Nat.le_of_ble_eq_true rfl) ⟨by unfold px_slot; rw [q2]; rfl, rfl⟩
  · rw [q1]
    subst hxi
    rw [nI_clamp (show i < 2 ^ 31 by omega)]
    refine jj_go C 4 rfl ?_
    refine jj_callS C rfl ml_BS_93 wd_531 (bs_isAttribute (x := a)) (rest := []) rfl rfl ⟨Nat.le_of_ble_eq_true rfl, Nat.le_of_ble_eq_true rfl⟩ (Nat.le_of_ble_eq_true rfl) (Nat.le_of_ble_eq_true rfl) (Nat.le_of_ble_eq_true rfl) ?_
    rintro q9 h9 ⟨rfl, hh9⟩
    rw [hh9]
    cases ha : px_at 5 (fun _ => true) a with
    | false =>
      refine jj_if C rfl (fun _ => ?_) (fun z => absurd rfl z)
      refine jj_go C 1 rfl ?_
      exact jj_iret C rfl rfl rfl (Nat.le_of_ble_eq_true rfl) (Nat.le_of_ble_eq_true rfl) ⟨by unfold px_slot; rw [ha, Bool.and_false]; rfl, rfl⟩
    | true =>
      obtain ⟨j, hj, haj, -⟩ := px_at_t (by decide) ha
      subst haj
      rw [nI_clamp (show j < 2 ^ 31 by omega)]
      have hs : px_slot (sg 2) (nI i) (nI j) = true := by
        unfold px_slot
        rw [q2, ha]
        rfl
      rw [if_pos hs]
      obtain ⟨v1, v2⟩ := a5 j hj
      refine jj_if C rfl (fun z => absurd z (by decide)) (fun _ => ?_)
      refine jj_go C 1 rfl ?_
      refine jj_getf C rfl fl_BS_100 a1 rfl ?_
      refine jj_go C 1 rfl ?_
      refine jj_zald C (n := 5) (f := B) rfl a4 rfl hj (by decide) ?_
      refine jj_if C rfl (fun z => ?_) (fun z => ?_)
      · rw [v2] at z
        refine jj_go C 1 rfl ?_
        exact jj_iret C rfl rfl rfl (Nat.le_of_ble_eq_true rfl) (Nat.le_of_ble_eq_true rfl) ⟨by rw [if_pos z], rfl⟩
      · rw [v2] at z
        refine jj_go C 1 rfl ?_
        refine jj_getf C rfl fl_BS_97 a1 rfl ?_
        refine jj_go C 1 rfl ?_
        refine jj_iald C (n := 5) (f := V) rfl a3 rfl hj (by decide) ?_
        exact jj_iret C rfl rfl rfl (Nat.le_of_ble_eq_true rfl) (Nat.le_of_ble_eq_true rfl) ⟨by rw [if_neg z, v1], rfl⟩
theorem bs_selected {x : Int32} {n : Nat} (hC : RC aC h r0 b0 ca cv cp cm nn rh sg mu io bm nq nl lp fb fq fm) (hn : io 19 = nI n) (hn2 : n ≤ 12) : jj_Ct l D aC base yn_BS_selected yb_BS_selected 2 (some .int) 0 0 0 [.ref (ca 0), .int x] h (fun q h' => q = some (.int (if px_at n (fun _ => true) x = true then sg 20 x.toNatClampNeg else -2)) ∧ h' = h) := by
  obtain ⟨hx, -, -, -, -, -, -, -, -, hs, -⟩ := hC
  rw [hn] at hx
  refine jj_start (tb := tb_BS_selected) (by decide) tg_BS_selected (Nat.le_of_ble_eq_true rfl) ?_
  intro p e s m args below meth cc C
  refine jj_go C 1 rfl ?_
  refine jj_if C rfl (fun z => ?_) (fun z => ?_)
  · refine jj_go C 2 rfl ?_
    exact jj_iret C rfl rfl rfl (Nat.le_of_ble_eq_true rfl) (Nat.le_of_ble_eq_true rfl) ⟨by rw [px_at_neg z]; rfl, rfl⟩
  obtain ⟨j, hj, rfl⟩ := nI_of z
  rw [nI_clamp hj]
  refine jj_go C 2 rfl ?_
  refine jj_getf C rfl fl_BS_49 hx rfl ?_
  refine jj_if C rfl (fun z2 => ?_) (fun z2 => ?_)
  · have hlt : j < n := (nI_ltI (a := j) (b := n) (by omega) (by omega)).mp z2
    refine jj_go C 1 rfl ?_
    refine jj_getf C rfl fl_BS_45 hx rfl ?_
    refine jj_go C 1 rfl ?_
    refine jj_iald C (n := 12) (f := sg 20) rfl hs rfl (by omega) (by decide) ?_
    exact jj_iret C rfl rfl rfl (Nat.le_of_ble_eq_true rfl) (Nat.le_of_ble_eq_true rfl) ⟨by rw [px_at_n hlt (by omega), if_pos rfl], rfl⟩
  · have hge : n ≤ j := Nat.not_lt.mp (fun q => z2 (nI_lt q (by omega)))
    refine jj_go C 2 rfl ?_
    exact jj_iret C rfl rfl rfl (Nat.le_of_ble_eq_true rfl) (Nat.le_of_ble_eq_true rfl) ⟨by rw [px_at_ge (nI_le hge (by omega))]; rfl, rfl⟩
theorem bs_notice {x w : Int32} (hC : RC aC h r0 b0 ca cv cp cm nn rh sg mu io bm nq nl lp fb fq fm) : jj_Ct l D aC base yn_BS_notice yb_BS_notice 3 (some .int) 2 0 0 [.ref (ca 0), .int x, .int w] h (fun q h' => q = some (.int (if px_at nl (fun _ => true) x = true ∧ px_at 4 (fun _ => true) w = true then sg 18 (4 * x.toNatClampNeg + w.toNatClampNeg) else -2)) ∧ h' = h) := by
  obtain ⟨hx, -, -, -, -, -, -, -, hL, -⟩ := hC
  have hL0 := hL
  obtain ⟨nx, F, -, -, ho, -⟩ := hL0
  refine jj_start (tb := tb_BS_notice) (by decide) tg_BS_notice (Nat.le_of_ble_eq_true rfl) ?_
  intro p e s m args below meth cc C
  refine jj_go C 1 rfl ?_
  refine jj_getf C rfl fl_BS_41 hx rfl ?_
  refine jj_go C 2 rfl ?_
  refine jj_callV C rfl ml_BS_197 wd_860 ho rfl se_LG_LG_told (lg_told (x := x) (w := w) hL) (rest := []) rfl rfl ⟨Nat.le_of_ble_eq_true rfl, Nat.le_of_ble_eq_true rfl⟩ (Nat.le_of_ble_eq_true rfl) (Nat.le_of_ble_eq_true rfl) (Nat.le_of_ble_eq_true rfl) ?_
  rintro q9 h9 ⟨rfl, hh9⟩
  rw [hh9]
  exact jj_iret C rfl rfl rfl (Nat.le_of_ble_eq_true rfl) (Nat.le_of_ble_eq_true rfl) ⟨rfl, rfl⟩
theorem bs_listen {x : Int32} (hA : jA aC) (hC : RC aC h r0 b0 ca cv cp cm nn rh sg mu io bm nq nl lp fb fq fm) : jj_Ct l D aC base yn_BS_listen yb_BS_listen 2 (some .int) 0 0 0 [.ref (ca 0), .int x] h (fun q h' => q = some (.int (io 15)) ∧ RC aC h' r0 b0 ca cv cp cm nn rh sg mu (upd io 16 x) bm nq nl lp fb fq fm ∧ jj_fr [ca 6] h h') := by
  have hC0 := hC
  obtain ⟨fB, fsB, hB0, hB1⟩ := hC.sb
  obtain ⟨hx, hsb, hb, hB, hq, hQ, hm, hM, hL, hs, hP⟩ := hC
  obtain ⟨nx, F, l1, l2, ho, l4, l5, l6⟩ := hL
  have hof := hC0.off ho (show (2 : Nat) ≠ 205 by decide) ⟨show (2 : Nat) ≠ 7 by decide, show (2 : Nat) ≠ 8 by decide⟩
  have hS : SF aC h r0 b0 [ca 6] := (SF.nil hB0).cons ho (bz_o (by decide))
  have m1 : ∀ c, c ≠ ca 6 → c ∉ [ca 6] := fun c hc q => hc (List.mem_singleton.mp q)
  refine jj_start (tb := tb_BS_listen) (by decide) tg_BS_listen (Nat.le_of_ble_eq_true rfl) ?_
  intro p e s m args below meth cc C
  refine jj_go C 1 rfl ?_
  refine jj_getf C rfl fl_BS_41 hx rfl ?_
  refine jj_go C 1 rfl ?_
  refine jj_putf C rfl fl_BS_194 ho rfl rfl (Nat.le_of_ble_eq_true rfl) ?_
  have hf : jj_fr [ca 6] h (jj_up h (ca 6) (.inr (2, lg_fs (fun w => ca (7 + w)) nl nx (io 15) x))) := jj_fr.rf.up (Or.inl List.mem_cons_self)
  have ho1 : jj_up h (ca 6) (.inr (2, lg_fs (fun w => ca (7 + w)) nl nx (io 15) x)) (ca 6) = some (.inr (2, lg_fs (fun w => ca (7 + w)) nl nx (io 15) x)) := jj_up_s
  refine jj_eq (h' := jj_up h (ca 6) (.inr (2, lg_fs (fun w => ca (7 + w)) nl nx (io 15) x))) rfl rfl rfl rfl ?_
  generalize jj_up h (ca 6) (.inr (2, lg_fs (fun w => ca (7 + w)) nl nx (io 15) x)) = h1 at hf ho1 ⊢
  have hx1 : h1 (ca 0) = some (.inr (0, bs_fs ca nq (io 19) lp)) := hf _ _ (m1 _ (co_ne 0 2 hx ho rfl rfl (by decide))) hx
  refine jj_go C 1 rfl ?_
  refine jj_getf C rfl fl_BS_41 hx1 rfl ?_
  refine jj_getf C rfl fl_BS_183 ho1 rfl ?_
  exact jj_iret C rfl rfl rfl (Nat.le_of_ble_eq_true rfl) (Nat.le_of_ble_eq_true rfl) ⟨rfl, ⟨hx1, hsb.keep hf (m1 _ (co_ne 11 2 hB1 ho rfl rfl (by decide))) (m1 _ (fun q => by rw [q, ho] at hB0; cases hB0)), hf _ _ (m1 _ (co_ne 112 2 hb ho rfl rfl (by decide))) hb, hB.sf hA hS hf (fun i hi hp => ⟨m1 _ (hof.1 i hi hp).1, m1 _ (hof.1 i hi hp).2⟩), hf _ _ (m1 _ (co_ne 106 2 hq ho rfl rfl (by decide))) hq, hQ.sf hS hf, hf _ _ (m1 _ (co_ne 106 2 hm ho rfl rfl (by decide))) hm, hM.sf hS hf (fun i hi hp => m1 _ (hof.2 i hi hp)), ⟨nx, F, l1, l2, ho1, fun w hw => hf _ _ (m1 _ (co_ne 216 2 (l4 w hw) ho rfl rfl (by decide))) (l4 w hw), l5, l6⟩, hf _ _ (m1 _ (co_ne 212 2 hs ho rfl rfl (by decide))) hs, hP.sf hS hf⟩, hf⟩
end PB
