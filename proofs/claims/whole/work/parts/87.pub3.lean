/-! The class's public methods: set, unset -/
section PD
variable {l : Launch} {D : va_G} {aC : Nat → ClassId} {base : Nat} {h : jjHp} {r0 b0 : Nat} {ca cv cp cm : Nat → Nat} {nn rh : Nat → List Nat} {sg : Nat → Nat → Int32} {mu : Nat → Int64} {io : Nat → Int32} {bm nq nl lp : Nat} {fb fq fm : Nat → Option Nat}
theorem RC.ca_ne (hC : RC aC h r0 b0 ca cv cp cm nn rh sg mu io bm nq nl lp fb fq fm) {c : Nat} {e : va_E} (hc : h c = some e) (hk : cK e ≠ 0 ∧ cK e ≠ 11 ∧ cK e ≠ 112 ∧ cK e ≠ 106 ∧ cK e ≠ 2 ∧ cK e ≠ 212 ∧ cK e ≠ 216) : ∀ k, k < 12 → k ≠ 2 → ca k ≠ c := by
  intro k h1 h2
  obtain ⟨e', he', hce⟩ := hC.kinds k h1 h2
  refine co_ne _ _ he' hc hce rfl ?_
  obtain ⟨a1, a2, a3, a4, a5, a6, a7⟩ := hk
  split
  · exact Ne.symm a1
  · split
    · exact Ne.symm a2
    · split
      · exact Ne.symm a3
      · split
        · exact Ne.symm a4
        · split
          · exact Ne.symm a4
          · split
            · exact Ne.symm a5
            · split
              · exact Ne.symm a6
              · exact Ne.symm a7
theorem RC.cm_ne (hC : RC aC h r0 b0 ca cv cp cm nn rh sg mu io bm nq nl lp fb fq fm) {c : Nat} {e : va_E} (hc : h c = some e) (h7 : cK e ≠ 7 ∧ cK e ≠ 8) : ∀ i, i < 6 → ¬ sg 6 i = 0 → cm i ≠ c := by
  obtain ⟨-, -, -, -, -, -, -, hM, -⟩ := hC
  intro i hi hp
  rcases hM i hi with ⟨q, -⟩ | ⟨-, -, nm, nmb, -, -, a3⟩
  · exact absurd q hp
  · rcases a3 with ⟨-, T, b2, -⟩ | ⟨-, sd, b2, -⟩
    · exact co_ne 7 _ b2 hc rfl rfl (Ne.symm h7.1)
    · exact co_ne 8 _ b2 hc rfl rfl (Ne.symm h7.2)
theorem bs_set_f {x a v : Int32} (hC : RC aC h r0 b0 ca cv cp cm nn rh sg mu io bm nq nl lp fb fq fm) (hs : px_slot (sg 2) x a = false) : jj_Ct l D aC base yn_BS_set yb_BS_set 5 (some .boolean) 1 0 0 [.ref (ca 0), .int x, .int a, .int v] h (fun q h' => q = some (.int 0) ∧ h' = h) := by
  obtain ⟨hx, -, hb, hB, -⟩ := hC
  refine jj_start (tb := tb_BS_set) (by decide) tg_BS_set (Nat.le_of_ble_eq_true rfl) ?_
  intro p e s m args below meth cc C
  refine jj_go C 2 rfl ?_
  refine jj_callV C rfl ml_BS_89 wd_528 hx rfl se_BS_BS_beanAt (bs_beanAt (x := x) hx hb) (rest := []) rfl rfl ⟨Nat.le_of_ble_eq_true rfl, Nat.le_of_ble_eq_true rfl⟩ (Nat.le_of_ble_eq_true rfl) (Nat.le_of_ble_eq_true rfl) (Nat.le_of_ble_eq_true rfl) ?_
  rintro q9 h9 ⟨rfl, hh9⟩
  rw [hh9]
  rcases hB.at x with ⟨q1, q2⟩ | ⟨i, be, hi, hxi, hp, q1, -, q2⟩
  · rw [q1]
    refine jj_go C 4 rfl ?_
    exact jj_iret C rfl rfl rfl (Nat.le_of_ble_eq_true rfl) (Nat.le_of_ble_eq_true rfl) ⟨rfl, rfl⟩
  · rw [q1]
    unfold px_slot at hs
    rw [q2, Bool.true_and] at hs
    refine jj_go C 4 rfl ?_
    refine jj_callS C rfl ml_BS_93 wd_531 (bs_isAttribute (x := a)) (rest := []) rfl rfl ⟨Nat.le_of_ble_eq_true rfl, Nat.le_of_ble_eq_true rfl⟩ (Nat.le_of_ble_eq_true rfl) (Nat.le_of_ble_eq_true rfl) (Nat.le_of_ble_eq_true rfl) ?_
    rintro q9 h9 ⟨rfl, hh9⟩
    rw [hh9]
    rw [hs]
    refine jj_if C rfl (fun _ => ?_) (fun z => absurd rfl z)
    refine jj_go C 1 rfl ?_
    exact jj_iret C rfl rfl rfl (Nat.le_of_ble_eq_true rfl) (Nat.le_of_ble_eq_true rfl) ⟨rfl, rfl⟩
theorem bs_set_t {i j : Nat} {v : Int32} (hA : jA aC) (hC : RC aC h r0 b0 ca cv cp cm nn rh sg mu io bm nq nl lp fb fq fm) (hD : RD sg cv cp cm) (hi : i < 12) (hj : j < 5) (hp : ¬ sg 2 i = 0) : jj_Ct l D aC base yn_BS_set yb_BS_set 5 (some .boolean) 1 0 0 [.ref (ca 0), .int (nI i), .int (nI j), .int v] h (fun q h' => q = some (.int 1) ∧ RC aC h' r0 b0 ca cv cp cm nn rh (va_up (va_up sg 4 (upd (sg 4) (5 * i + j) 1)) 3 (upd (sg 3) (5 * i + j) v)) mu io bm nq nl lp fb fq fm ∧ jj_fr [cv i, cp i] h h') := by
  have hC0 := hC
  have hofb := hC.offb hA
  obtain ⟨fB, fsB, hB0, hB1⟩ := hC.sb
  obtain ⟨hx, hsb, hb, hB, hq, hQ, hm, hM, hL, hs, hP⟩ := hC
  obtain ⟨be, hfb, pt, V, B, a1, a2, a3, a4, a5⟩ : ∃ be, fb i = some be ∧ RB1 aC h b0 r0 cv cp nn sg i be := by
    rcases hB i hi with ⟨q, -⟩ | ⟨-, be, q1, q2⟩
    · exact absurd q hp
    · exact ⟨be, q1, q2⟩
  have nvp : cv i ≠ cp i := cl_ne hA 0 1 (by decide) (by decide) a3 a4 (by decide)
  have hS : SF aC h r0 b0 [cv i, cp i] := ((SF.nil hB0).cons a4 (bz_a hA (by decide) (by decide) (by decide))).cons a3 (bz_a hA (by decide) (by decide) (by decide))
  have c1 := hC0.ca_ne a3 (by show (205 : Nat) ≠ 0 ∧ (205 : Nat) ≠ 11 ∧ (205 : Nat) ≠ 112 ∧ (205 : Nat) ≠ 106 ∧ (205 : Nat) ≠ 2 ∧ (205 : Nat) ≠ 212 ∧ (205 : Nat) ≠ 216; decide)
  have c2 := hC0.ca_ne a4 (by show (205 : Nat) ≠ 0 ∧ (205 : Nat) ≠ 11 ∧ (205 : Nat) ≠ 112 ∧ (205 : Nat) ≠ 106 ∧ (205 : Nat) ≠ 2 ∧ (205 : Nat) ≠ 212 ∧ (205 : Nat) ≠ 216; decide)
  have no2 : ∀ z, z ≠ cv i → z ≠ cp i → z ∉ [cv i, cp i] := fun z a b q => by
    rcases List.mem_cons.mp q with q | q
    · exact a q
    · exact b (List.mem_singleton.mp q)
  have hca := fun k a b => no2 (ca k) (c1 k a b) (c2 k a b)
  refine jj_start (tb := tb_BS_set) (by decide) tg_BS_set (Nat.le_of_ble_eq_true rfl) ?_
  intro p e s m args below meth cc C
  refine jj_go C 2 rfl ?_
  refine jj_callV C rfl ml_BS_89 wd_528 hx rfl se_BS_BS_beanAt (bs_beanAt (x := nI i) hx hb) (rest := []) rfl rfl ⟨Nat.le_of_ble_eq_true rfl, Nat.le_of_ble_eq_true rfl⟩ (Nat.le_of_ble_eq_true rfl) (Nat.le_of_ble_eq_true rfl) (Nat.le_of_ble_eq_true rfl) ?_
  rintro q9 h9 ⟨rfl, hh9⟩
  rw [hh9]
  rw [bs_at_n hi (by decide), hfb]
  refine jj_go C 4 rfl ?_
  refine jj_callS C rfl ml_BS_93 wd_531 (bs_isAttribute (x := nI j)) (rest := []) rfl rfl ⟨Nat.le_of_ble_eq_true rfl, Nat.le_of_ble_eq_true rfl⟩ (Nat.le_of_ble_eq_true rfl) (Nat.le_of_ble_eq_true rfl) (Nat.le_of_ble_eq_true rfl) ?_
  rintro q9 h9 ⟨rfl, hh9⟩
  rw [hh9]
  rw [px_at_n hj (by decide)]
  refine jj_if C rfl (fun z => absurd z (by decide)) (fun _ => ?_)
  refine jj_go C 1 rfl ?_
  refine jj_getf C rfl fl_BS_97 a1 rfl ?_
  refine jj_go C 2 rfl ?_
  refine jj_iast C (n := 5) (f := V) (j := j) rfl a3 rfl hj (by decide) ?_
  have hf1 : jj_fr [cv i, cp i] h (jj_up h (cv i) (.inl (aC 0, 5, .inl (upd V j v)))) := jj_fr.rf.up (Or.inl List.mem_cons_self)
  have a31 : jj_up h (cv i) (.inl (aC 0, 5, .inl (upd V j v))) (cv i) = some (.inl (aC 0, 5, .inl (upd V j v))) := jj_up_s
  have a41 : jj_up h (cv i) (.inl (aC 0, 5, .inl (upd V j v))) (cp i) = some (.inl (aC 1, 5, .inl B)) := (jj_up_n (Ne.symm nvp)).trans a4
  generalize jj_up h (cv i) (.inl (aC 0, 5, .inl (upd V j v))) = h1 at hf1 a31 a41 ⊢
  have a11 := hf1 _ _ (hS.obj a1 (by omega)) a1
  refine jj_go C 1 rfl ?_
  refine jj_getf C rfl fl_BS_100 a11 rfl ?_
  refine jj_go C 2 rfl ?_
  refine jj_zast C (n := 5) (f := B) (j := j) rfl a41 rfl hj (by decide) ?_
  have hf2 : jj_fr [cv i, cp i] h (jj_up h1 (cp i) (.inl (aC 1, 5, .inl (upd B j 1)))) := hf1.up (Or.inl (List.mem_cons_of_mem _ List.mem_cons_self))
  have a32 : jj_up h1 (cp i) (.inl (aC 1, 5, .inl (upd B j 1))) (cv i) = some (.inl (aC 0, 5, .inl (upd V j v))) := (jj_up_n nvp).trans a31
  have a42 : jj_up h1 (cp i) (.inl (aC 1, 5, .inl (upd B j 1))) (cp i) = some (.inl (aC 1, 5, .inl (upd B j 1))) := jj_up_s
  refine jj_eq (h' := jj_up h1 (cp i) (.inl (aC 1, 5, .inl (upd B j 1)))) rfl rfl rfl rfl ?_
  generalize jj_up h1 (cp i) (.inl (aC 1, 5, .inl (upd B j 1))) = h2 at hf2 a32 a42 ⊢
  refine jj_go C 1 rfl ?_
  refine jj_iret C rfl rfl rfl (Nat.le_of_ble_eq_true rfl) (Nat.le_of_ble_eq_true rfl) ⟨rfl, ⟨hf2 _ _ (hca 0 (by decide) (by decide)) hx, hsb.keep hf2 (hca 1 (by decide) (by decide)) (no2 _ (Ne.symm (hofb.1 i hi hp).1) (Ne.symm (hofb.1 i hi hp).2)), hf2 _ _ (hca 3 (by decide) (by decide)) hb, ?_, hf2 _ _ (hca 4 (by decide) (by decide)) hq, hQ.sf hS hf2, hf2 _ _ (hca 5 (by decide) (by decide)) hm, ?_, hL.sf hf2 (hca 6 (by decide) (by decide)) (fun w hw => hca (7 + w) (by omega) (by omega)), hf2 _ _ (hca 11 (by decide) (by decide)) hs, hP.sf hS hf2⟩, hf2⟩
  · intro k hk
    show (sg 2 k = 0 ∧ fb k = none) ∨ (¬ sg 2 k = 0 ∧ _)
    rcases hB k hk with q | ⟨q, be', q1, pt', V', B', b1, b2, b3, b4, b5⟩
    · exact Or.inl q
    · right
      refine ⟨q, be', q1, ?_⟩
      by_cases hki : k = i
      · subst hki
        rw [hfb] at q1
        cases q1
        refine ⟨pt, upd V j v, upd B j 1, hf2 _ _ (hS.obj a1 (by omega)) a1, a2.sf hA hS hf2, a32, a42, fun a ha => ?_⟩
        obtain ⟨v1, v2⟩ := a5 a ha
        show upd V j v a = upd (sg 3) (5 * k + j) v (5 * k + a) ∧ upd B j 1 a = upd (sg 4) (5 * k + j) 1 (5 * k + a)
        unfold upd
        by_cases haj : a = j
        · rw [if_pos haj, if_pos (by omega), if_pos haj, if_pos (by omega)]
          exact ⟨rfl, rfl⟩
        · rw [if_neg haj, if_neg (by omega), if_neg haj, if_neg (by omega)]
          exact ⟨v1, v2⟩
      · obtain ⟨d1, d2⟩ := hD.1 k i hk hi q hp hki
        have e1 : cv k ≠ cp i := cl_ne hA 0 1 (by decide) (by decide) b3 a4 (by decide)
        have e2 : cp k ≠ cv i := cl_ne hA 1 0 (by decide) (by decide) b4 a3 (by decide)
        refine ⟨pt', V', B', hf2 _ _ (hS.obj b1 (by omega)) b1, b2.sf hA hS hf2, hf2 _ _ (no2 _ d1 e1) b3, hf2 _ _ (no2 _ e2 d2) b4, fun a ha => ?_⟩
        obtain ⟨v1, v2⟩ := b5 a ha
        show V' a = upd (sg 3) (5 * i + j) v (5 * k + a) ∧ B' a = upd (sg 4) (5 * i + j) 1 (5 * k + a)
        unfold upd
        rw [if_neg (by omega), if_neg (by omega)]
        exact ⟨v1, v2⟩
  · exact hM.sf hS hf2 (fun k hk hl => no2 _ (hC0.cm_ne a3 ⟨show (205 : Nat) ≠ 7 by decide, show (205 : Nat) ≠ 8 by decide⟩ k hk hl) (hC0.cm_ne a4 ⟨show (205 : Nat) ≠ 7 by decide, show (205 : Nat) ≠ 8 by decide⟩ k hk hl))
end PD
