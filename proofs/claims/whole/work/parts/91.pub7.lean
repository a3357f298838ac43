/-! The class's public methods: register -/
section PH
variable {l : Launch} {D : va_G} {aC : Nat → ClassId} {base : Nat} {h h' : jjHp} {r0 b0 : Nat} {ca cv cp cm : Nat → Nat} {nn rh rh' : Nat → List Nat} {sg : Nat → Nat → Int32} {mu : Nat → Int64} {io : Nat → Int32} {bm nq nl lp : Nat} {fb fq fm : Nat → Option Nat}
theorem RC.rhc (hC : RC aC h r0 b0 ca cv cp cm nn rh sg mu io bm nq nl lp fb fq fm) (he : ∀ k, 12 ≤ k → rh' k = rh k) : RC aC h r0 b0 ca cv cp cm nn rh' sg mu io bm nq nl lp fb fq fm := by
  obtain ⟨hx, hsb, hb, hB, hq, hQ, hm, hM, hL, hs, hP⟩ := hC
  exact ⟨hx, by rw [he 33 (by decide)]; exact hsb, hb, hB, hq, hQ.cg (fun i hi => he _ (by omega)), hm, hM.cg (fun i hi => he _ (by omega)), hL, hs, hP.cg (he 30 (by decide))⟩
/-- new cells alone -/
theorem RC.new (hC : RC aC h r0 b0 ca cv cp cm nn rh sg mu io bm nq nl lp fb fq fm) (hA : jA aC) (hf : jj_fr [] h h') : RC aC h' r0 b0 ca cv cp cm nn rh sg mu io bm nq nl lp fb fq fm := by
  obtain ⟨fB, fsB, hB0, hB1⟩ := hC.sb
  exact hC.keep hA (SF.nil hB0) hf (fun k _ _ => List.not_mem_nil) List.not_mem_nil (fun i _ _ => ⟨List.not_mem_nil, List.not_mem_nil⟩) (fun i _ _ => List.not_mem_nil)
def rg_f (f : Nat → Nat) (b v : Nat) : Nat → Nat := fun k => if k = b then v else f k
theorem rg_s {f : Nat → Nat} {b v : Nat} : rg_f f b v b = v := if_pos rfl
theorem rg_n {f : Nat → Nat} {b v k : Nat} (h : k ≠ b) : rg_f f b v k = f k := if_neg h
theorem bs_register {er : va_E} (hA : jA aC) (hC : RC aC h r0 b0 ca cv cp cm nn rh sg mu io bm nq nl lp fb fq fm) (hD : RD sg cv cp cm) (hnq : nq ≤ 6) (hlen : (rh 33).length ≤ 60) (hr0 : h r0 = some er) (hr1 : r0 ≠ ca 1) (hnn : ∀ i, i < 12 → ¬ sg 2 i = 0 → rh i = px_fo (nn i) ∧ (rh i).length ≤ 60) (h17 : io 17 = nI nl) : jj_Ct l D aC base yn_BS_register yb_BS_register 3 (some .int) 11 74 9517 [.ref (ca 0)] h (fun q h' => q = some (.int (px_rg (sg 2) rh (rh 33))) ∧ jj_fr ([ca 1, ca 3] ++ lg_S (ca 6) (fun w => ca (7 + w))) h h' ∧ (px_new (sg 2) rh (rh 33) = none → RC aC h' r0 b0 ca cv cp cm nn (jr_up rh 33 []) sg mu io bm nq nl lp fb fq fm) ∧ (∀ b, px_new (sg 2) rh (rh 33) = some b → ∃ nl' va pr be, h va = none ∧ h pr = none ∧ RC aC h' r0 b0 ca (rg_f cv b va) (rg_f cp b pr) cm (jr_up nn b (rh 33)) (jr_up (jr_up rh 33 []) b (px_fo (rh 33))) (gv_sg (px_nsg sg b 5) io 0 (nI b) 0) mu (gv_io io 0) bm nq nl' lp (va_up fb b (some be)) fq fm ∧ gv_io io 0 17 = nI nl' ∧ RD (px_nsg sg b 5) (rg_f cv b va) (rg_f cp b pr) cm)) := by
  have hC0 := hC
  have hx := hC.1
  have hsb := hC.2.1
  have sub1 : ∀ {g g' : jjHp}, jj_fr [ca 1] g g' → jj_fr ([ca 1, ca 3] ++ lg_S (ca 6) (fun w => ca (7 + w))) g g' := fun hf => hf.mono (fun c hc => by rw [List.mem_singleton.mp hc]; simp)
  have sub3 : ∀ {g g' : jjHp}, jj_fr [ca 3] g g' → jj_fr ([ca 1, ca 3] ++ lg_S (ca 6) (fun w => ca (7 + w))) g g' := fun hf => hf.mono (fun c hc => by rw [List.mem_singleton.mp hc]; simp)
  have sub0 : ∀ {g g' : jjHp}, jj_fr [] g g' → jj_fr ([ca 1, ca 3] ++ lg_S (ca 6) (fun w => ca (7 + w))) g g' := fun hf => hf.mono (fun c hc => by cases hc)
  have subL : ∀ {g g' : jjHp}, jj_fr (lg_S (ca 6) (fun w => ca (7 + w))) g g' → jj_fr ([ca 1, ca 3] ++ lg_S (ca 6) (fun w => ca (7 + w))) g g' := fun hf => hf.mono (fun c hc => List.mem_append_right _ hc)
  refine jj_start (tb := tb_BS_register) (by decide) tg_BS_register (Nat.le_of_ble_eq_true rfl) ?_
  intro p e s m args below meth cc C
  refine jj_go C 1 rfl ?_
  refine jj_callV C rfl ml_BS_66 wd_245 hx rfl se_BS_BS_takenName (bs_takenName2 (r0 := r0) hr0 hr1 hx rfl hsb hlen) (rest := []) rfl rfl ⟨Nat.le_of_ble_eq_true rfl, Nat.le_of_ble_eq_true rfl⟩ (Nat.le_of_ble_eq_true rfl) (Nat.le_of_ble_eq_true rfl) (Nat.le_of_ble_eq_true rfl) ?_
  rintro q9 h1 ⟨hf1, hs1, hr⟩
  have hC1 := hC.taken hA hnq hf1 hs1
  have hx1 := hC1.1
  have fresh1 : ∀ c, h1 c = none → h c = none := by
    intro c hc
    cases hv : h c with
    | none => rfl
    | some e =>
      by_cases hq : c = ca 1
      · obtain ⟨_, _, -, hh⟩ := hC1.sb
        rw [← hq, hc] at hh
        cases hh
      · have := hf1 c e (fun q => hq (List.mem_singleton.mp q)) hv
        rw [hc] at this
        cases this
  rcases hr with ⟨hrd, pt, rfl, hpt, hok⟩ | ⟨hrd, rfl⟩
  rotate_left
  · have e1 : px_rg (sg 2) rh (rh 33) = -1 := by
      unfold px_rg
      rw [if_neg (by rw [hrd]; decide)]
    have e2 : px_new (sg 2) rh (rh 33) = none := by
      unfold px_new
      rw [if_neg (fun q => by rw [hrd] at q; cases q.1)]
    refine jj_go C 4 rfl ?_
    refine jj_iret C rfl rfl rfl (Nat.le_of_ble_eq_true rfl) (Nat.le_of_ble_eq_true rfl) ⟨by rw [e1], sub1 hf1, (fun _ => hC1), fun b q => by rw [e2] at q; cases q⟩
  obtain ⟨-, hpa⟩ := px_fo_rd hrd
  have hok0 := hok
  obtain ⟨tx, txb, st, en, Sf, Ef, fm9, fmb9, ⟨p1, -⟩, -, p3, -⟩ := hok
  refine jj_go C 5 rfl ?_
  refine jj_getf C rfl fl_BS_70 p1 rfl ?_
  refine jj_callV C rfl ml_BS_75 wd_474 hx1 rfl se_BS_BS_beanNamed (bs_beanNamed (rh := rh) hx1 hC1.2.2.1 hC1.2.2.2.1 hnn p3 (by rw [px_fo_len hpa]; exact hlen)) (rest := []) rfl rfl ⟨Nat.le_of_ble_eq_true rfl, Nat.le_of_ble_eq_true rfl⟩ (Nat.le_of_ble_eq_true rfl) (Nat.le_of_ble_eq_true rfl) (Nat.le_of_ble_eq_true rfl) ?_
  rintro q9 h9 ⟨rfl, hh9⟩
  rw [hh9]
  cases hbw : px_bw (sg 2) rh (px_fo (rh 33)) 12 0 with
  | some b =>
    have hlt := px_bw_lt 12 0 hbw
    have e1 : px_rg (sg 2) rh (rh 33) = -3 := by
      unfold px_rg
      rw [if_pos hrd, hbw, if_neg (by simp)]
    have e2 : px_new (sg 2) rh (rh 33) = none := by
      unfold px_new
      rw [hbw, if_neg (fun q => by cases q.2)]
    refine jj_go C 1 rfl ?_
    refine jj_if C rfl (fun z => absurd z (fun q => absurd (show nI b < 0 by rw [show nI b = -2 from q]; decide) (nI_pos (by omega)))) (fun _ => ?_)
    refine jj_go C 1 rfl ?_
    refine jj_iret C rfl rfl rfl (Nat.le_of_ble_eq_true rfl) (Nat.le_of_ble_eq_true rfl) ⟨by rw [e1], sub1 hf1, (fun _ => hC1), fun b q => by rw [e2] at q; cases q⟩
  | none =>
    have e1 : px_rg (sg 2) rh (rh 33) = (match px_free (sg 2) 12 0 with | some b => nI b | none => -4) := by
      unfold px_rg
      rw [if_pos hrd, if_pos hbw]
      rfl
    have e2 : px_new (sg 2) rh (rh 33) = px_free (sg 2) 12 0 := by
      unfold px_new
      rw [if_pos ⟨hrd, hbw⟩]
    refine jj_go C 1 rfl ?_
    refine jj_if C rfl (fun _ => ?_) (fun z => absurd rfl z)
    refine jj_go C 1 rfl ?_
    refine jj_callV C rfl ml_BS_79 wd_486 hx1 rfl se_BS_BS_freeBean (bs_freeBean hx1 hC1.2.2.1 hC1.2.2.2.1) (rest := []) rfl rfl ⟨Nat.le_of_ble_eq_true rfl, Nat.le_of_ble_eq_true rfl⟩ (Nat.le_of_ble_eq_true rfl) (Nat.le_of_ble_eq_true rfl) (Nat.le_of_ble_eq_true rfl) ?_
    rintro q9 h9 ⟨rfl, hh9⟩
    rw [hh9]
    cases hfr : px_free (sg 2) 12 0 with
    | none =>
      rw [hfr] at e1 e2
      refine jj_go C 3 rfl ?_
      refine jj_if C rfl (fun _ => ?_) (fun z => absurd rfl z)
      refine jj_go C 1 rfl ?_
      refine jj_iret C rfl rfl rfl (Nat.le_of_ble_eq_true rfl) (Nat.le_of_ble_eq_true rfl) ⟨by rw [e1], sub1 hf1, (fun _ => hC1), fun b q => by rw [e2] at q; cases q⟩
    | some b =>
      rw [hfr] at e1 e2
      have hlt := px_free_lt 12 0 hfr
      have hb12 : b < 12 := by omega
      have hb0 : sg 2 b = 0 := hlt.2.2
      refine jj_go C 3 rfl ?_
      refine jj_if C rfl (fun z => absurd z (fun q => absurd (show nI b < 0 by rw [show nI b = -4 from q]; decide) (nI_pos (by omega)))) (fun _ => ?_)
      refine jj_go C 1 rfl ?_
      refine jj_getf C rfl fl_BS_18 hx1 rfl ?_
      refine jj_go C 1 rfl ?_
      refine jj_new C rfl nw_BS_16 (Nat.le_of_ble_eq_true rfl) (Nat.le_of_ble_eq_true rfl) (fun be hbe => ?_)
      refine jj_go C 2 rfl ?_
      refine jj_callI C rfl ml_BS_82 wd_490 rfl (be_init (x := be) (pt := pt) jj_up_s) (rest := [.ref be, .int (nI b), .ref (ca 3)]) rfl rfl ⟨(Nat.le_of_ble_eq_true rfl), (Nat.le_of_ble_eq_true rfl)⟩ (Nat.le_of_ble_eq_true rfl) (Nat.le_of_ble_eq_true rfl) (Nat.le_of_ble_eq_true rfl) ?_
      rintro q9 h3 ⟨rfl, va, pr, i1, i2, i3, i4, i5⟩
      obtain ⟨pr1, pr2⟩ := i2 (2, pr, .inl (aC 1, 5, .inl (fun _ => 0))) List.mem_cons_self
      obtain ⟨va1, va2⟩ := i2 (1, va, .inl (aC 0, 5, .inl (fun _ => 0))) (List.mem_cons_of_mem _ List.mem_cons_self)
      dsimp only at pr1 pr2 va1 va2
      have hfN : jj_fr [] h1 h3 := fun c e _ hc => i4 c e (jj_ne hbe hc) (jj_up_f hbe hc)
      have nv : h1 va = none := by
        cases hv : h1 va with
        | none => rfl
        | some e => rw [jj_up_f hbe hv] at va2; cases va2
      have np : h1 pr = none := by
        cases hv : h1 pr with
        | none => rfl
        | some e => rw [jj_up_f hbe hv] at pr2; cases pr2
      have hC3 := hC1.new hA hfN
      obtain ⟨fB3, fsB3, hB03, -⟩ := hC3.sb
      obtain ⟨fB1, fsB1, hB01, -⟩ := hC1.sb
      have hok3 := hok0.sf hA (SF.nil hB01) hfN
      refine jj_aast C 5 (n := 12) (f := fb) (j := b) (v := be) rfl hC3.2.2.1 rfl i1 rfl rfl hb12 (by decide) ?_
      obtain ⟨kB, mk⟩ := hC3.beans hA (fb' := va_up fb b (some be))
      have hf4 : jj_fr [ca 3] h3 (jj_up h3 (ca 3) (rfA (aC 5) 12 (va_up fb b (some be)))) := jj_fr.rf.up (Or.inl List.mem_cons_self)
      have hS4 : SF aC h3 r0 b0 [ca 3] := (SF.nil hB03).cons hC3.2.2.1 (bz_a hA (by decide) (by decide) (by decide))
      have m3 : ∀ {c e}, h3 c = some e → cK e ≠ 112 → c ∉ [ca 3] := fun hc hk q => co_ne _ 112 hc hC3.2.2.1 rfl rfl hk (List.mem_singleton.mp q)
      have hC4 := mk (sg' := px_nsg sg b 5) (cv' := rg_f cv b va) (cp' := rg_f cp b pr) (nn' := jr_up nn b (rh 33)) (fun k hk => by
          unfold px_nsg va_up
          rw [if_neg (by intro q; rw [q] at hk; revert hk; decide), if_neg (by intro q; rw [q] at hk; revert hk; decide), if_neg (by intro q; rw [q] at hk; revert hk; decide)]) (by
          intro i hi
          by_cases hib : i = b
          · subst hib
            right
            have e9 : px_nsg sg i 5 2 i = 1 := by
              show upd (sg 2) i 1 i = 1
              unfold upd
              rw [if_pos rfl]
            refine ⟨by rw [e9]; decide, be, by unfold va_up; rw [if_pos rfl], pt, fun _ => 0, fun _ => 0, ?_, ?_, ?_, ?_, ?_⟩
            · rw [rg_s, rg_s]
              exact hf4 _ _ (m3 i1 (show (1 : Nat) ≠ 112 by decide)) i1
            · rw [jr_up_s]
              exact hok3.sf hA hS4 hf4
            · rw [rg_s]
              exact hf4 _ _ (m3 va1 (show (205 : Nat) ≠ 112 by decide)) va1
            · rw [rg_s]
              exact hf4 _ _ (m3 pr1 (show (205 : Nat) ≠ 112 by decide)) pr1
            · intro a ha
              constructor
              · show (0 : Int32) = px_clr (sg 3) i 5 (5 * i + a)
                unfold px_clr
                rw [if_pos (by omega)]
              · show (0 : Int32) = px_clr (sg 4) i 5 (5 * i + a)
                unfold px_clr
                rw [if_pos (by omega)]
          · have e9 : px_nsg sg b 5 2 i = sg 2 i := by
              show upd (sg 2) b 1 i = _
              unfold upd
              rw [if_neg hib]
            have ef : va_up fb b (some be) i = fb i := by
              unfold va_up
              rw [if_neg hib]
            rw [e9, ef]
            rcases kB i hi with q | ⟨q, be', q1, pt', V', B', c1, c2, c3, c4, c5⟩
            · exact Or.inl q
            · refine Or.inr ⟨q, be', q1, pt', V', B', ?_, ?_, ?_, ?_, ?_⟩
              · rw [rg_n hib, rg_n hib]
                exact c1
              · rw [jr_up_n hib]
                exact c2
              · rw [rg_n hib]
                exact c3
              · rw [rg_n hib]
                exact c4
              · intro a ha
                obtain ⟨d1, d2⟩ := c5 a ha
                constructor
                · show V' a = px_clr (sg 3) b 5 (5 * i + a)
                  unfold px_clr
                  rw [if_neg (by omega)]
                  exact d1
                · show B' a = px_clr (sg 4) b 5 (5 * i + a)
                  unfold px_clr
                  rw [if_neg (by omega)]
                  exact d2)
      refine jj_eq (h' := jj_up h3 (ca 3) (rfA (aC 5) 12 (va_up fb b (some be)))) rfl rfl rfl rfl ?_
      generalize jj_up h3 (ca 3) (rfA (aC 5) 12 (va_up fb b (some be))) = h4 at hf4 hC4 ⊢
      have hC4 := hC4.rhc (rh' := jr_up (jr_up rh 33 []) b (px_fo (rh 33))) (fun k hk => jr_up_n (by omega))
      have hL4 := hC4.2.2.2.2.2.2.2.2.1
      obtain ⟨nx, F, -, -, ho4, -⟩ := hL4
      refine jj_go C 1 rfl ?_
      refine jj_getf C rfl fl_BS_41 hC4.1 rfl ?_
      refine jj_go C 3 rfl ?_
      refine jj_callV C rfl ml_BS_85 wd_510 ho4 rfl se_LG_LG_give (bs_give (k := 0) (s0 := nI b) (v0 := 0) hA hC4 h17) (rest := []) rfl rfl ⟨Nat.le_of_ble_eq_true rfl, Nat.le_of_ble_eq_true rfl⟩ (Nat.le_of_ble_eq_true rfl) (Nat.le_of_ble_eq_true rfl) (Nat.le_of_ble_eq_true rfl) ?_
      rintro q9 h5 ⟨rfl, nl5, hC5, h175, hf5⟩
      refine jj_go C 1 rfl ?_
      refine jj_iret C rfl rfl rfl (Nat.le_of_ble_eq_true rfl) (Nat.le_of_ble_eq_true rfl) ⟨by rw [e1], (((sub1 hf1).tr (sub0 hfN)).tr (sub3 hf4)).tr (subL hf5), (fun q => by rw [e2] at q; cases q), fun b' q => ?_⟩
      rw [e2] at q
      cases q
      refine ⟨nl5, va, pr, be, fresh1 _ nv, fresh1 _ np, hC5, h175, ?_, hD.2⟩
      -- the new bean's cells are no other's
      have cells : ∀ i, i < 12 → ¬ sg 2 i = 0 → (∃ e, h1 (cv i) = some e) ∧ ∃ e, h1 (cp i) = some e := by
        intro i hi hp
        rcases hC1.2.2.2.1 i hi with ⟨q, -⟩ | ⟨-, be', -, pt', V', B', -, -, c3, c4, -⟩
        · exact absurd q hp
        · exact ⟨⟨_, c3⟩, ⟨_, c4⟩⟩
      have e9 : ∀ i, i ≠ b → px_nsg sg b 5 2 i = sg 2 i := by
        intro i hib
        show upd (sg 2) b 1 i = _
        unfold upd
        rw [if_neg hib]
      intro i j hi hj pi pj hij
      by_cases hib : i = b
      · have hjb : j ≠ b := fun q => hij (hib.trans q.symm)
        rw [e9 j hjb] at pj
        obtain ⟨⟨ev, gv⟩, ⟨ep, gp⟩⟩ := cells j hj pj
        rw [hib, rg_s, rg_s, rg_n hjb, rg_n hjb]
        exact ⟨(fun q => by rw [q, gv] at nv; cases nv), (fun q => by rw [q, gp] at np; cases np)⟩
      · rw [e9 i hib] at pi
        by_cases hjb : j = b
        · obtain ⟨⟨ev, gv⟩, ⟨ep, gp⟩⟩ := cells i hi pi
          rw [hjb, rg_s, rg_s, rg_n hib, rg_n hib]
          exact ⟨(fun q => by rw [← q, gv] at nv; cases nv), (fun q => by rw [← q, gp] at np; cases np)⟩
        · rw [e9 j hjb] at pj
          rw [rg_n hib, rg_n hib, rg_n hjb, rg_n hjb]
          exact hD.1 i j hi hj pi pj hij
end PH
