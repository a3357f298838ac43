/-! The class's public methods: select -/
section PK
variable {l : Launch} {D : va_G} {aC : Nat → ClassId} {base : Nat} {h h' : jjHp} {r0 b0 : Nat} {ca cv cp cm : Nat → Nat} {nn rh rh' : Nat → List Nat} {sg sg' : Nat → Nat → Int32} {mu : Nat → Int64} {io io' : Nat → Int32} {bm nq nl lp : Nat} {fb fq fm : Nat → Option Nat}
/-- another selection -/
theorem RC.selarr (hC : RC aC h r0 b0 ca cv cp cm nn rh sg mu io bm nq nl lp fb fq fm) (hA : jA aC) (G : Nat → Int32) : RC aC (jj_up h (ca 11) (.inl (aC 0, 12, .inl G))) r0 b0 ca cv cp cm nn rh (va_up sg 20 G) mu io bm nq nl lp fb fq fm := by
  have hC0 := hC
  obtain ⟨fB, fsB, hB0, hB1⟩ := hC.sb
  obtain ⟨hx, hsb, hb, hB, hq, hQ, hm, hM, ⟨nx, F, l1, l2, ho, l4, l5, l6⟩, hs, hP⟩ := hC
  have hof := hC0.off hs (show (212 : Nat) ≠ 205 by decide) ⟨show (212 : Nat) ≠ 7 by decide, show (212 : Nat) ≠ 8 by decide⟩
  have hS : SF aC h r0 b0 [ca 11] := (SF.nil hB0).cons hs (bz_a hA (by decide) (by decide) (by decide))
  have m1 : ∀ c, c ≠ ca 11 → c ∉ [ca 11] := fun c hc q => hc (List.mem_singleton.mp q)
  have hf : jj_fr [ca 11] h (jj_up h (ca 11) (.inl (aC 0, 12, .inl G))) := jj_fr.rf.up (Or.inl List.mem_cons_self)
  have hMM := hM.sf hS hf (fun i hi hp => m1 _ (hof.2 i hi hp))
  have hBB := hB.sf hA hS hf (fun i hi hp => ⟨m1 _ (hof.1 i hi hp).1, m1 _ (hof.1 i hi hp).2⟩)
  exact ⟨hf _ _ (m1 _ (co_ne 0 212 hx hs rfl rfl (by decide))) hx, hsb.keep hf (m1 _ (co_ne 11 212 hB1 hs rfl rfl (by decide))) (m1 _ (cl_ne hA 4 0 (by decide) (by decide) hB0 hs (by decide))), hf _ _ (m1 _ (co_ne 112 212 hb hs rfl rfl (by decide))) hb, hBB, hf _ _ (m1 _ (co_ne 106 212 hq hs rfl rfl (by decide))) hq, hQ.sf hS hf, hf _ _ (m1 _ (co_ne 106 212 hm hs rfl rfl (by decide))) hm, hMM, ⟨nx, F, l1, l2, hf _ _ (m1 _ (co_ne 2 212 ho hs rfl rfl (by decide))) ho, fun w hw => hf _ _ (m1 _ (co_ne 216 212 (l4 w hw) hs rfl rfl (by decide))) (l4 w hw), l5, l6⟩, jj_up_s, hP.sf hS hf⟩
theorem bs_select {x : Int32} {er : va_E} {tt : List Nat} {S : Nat → Bool} (hA : jA aC) (hC : RC aC h r0 b0 ca cv cp cm nn rh sg mu io bm nq nl lp fb fq fm) (hnq : nq ≤ 6) (h5 : ∀ i, i < 6 → (sg 5 i = 0 ↔ nq ≤ i)) (htt : rh 33 = tt) (hlen : tt.length ≤ 60) (hr0 : h r0 = some er) (hr1 : r0 ≠ ca 1) (hnn : ∀ b, b < 12 → ¬ sg 2 b = 0 → px_pa (nn b) = true) (hQ : ¬ x = -1 → px_at 6 (px_b (sg 5)) x = true → ∃ n f j0 k0 A, n < nq ∧ x = nI n ∧ QQ 2 (rh (18 + n)) f j0 k0 A ∧ rh (24 + n) = f 0 0 ∧ (rh (24 + n)).length ≤ 60 ∧ ∀ b, b < 12 → ¬ sg 2 b = 0 → px_fit tt (nn b) = true → S b = (A (rr_E sg b) == 1)) (hS0 : ∀ b, b < 12 → sg 2 b = 0 → S b = false) (hS1 : ∀ b, b < 12 → ¬ sg 2 b = 0 → px_fit tt (nn b) = false → S b = false) (hS2 : x = -1 → ∀ b, b < 12 → ¬ sg 2 b = 0 → px_fit tt (nn b) = true → S b = true) : jj_Ct l D aC base yn_BS_select yb_BS_select 7 (some .int) 191 83 9576 [.ref (ca 0), .int x] h (fun q h' => jj_fr [ca 0, ca 1, ca 11] h h' ∧ (px_sok tt (sg 5) x = false → q = some (.int (px_sno (sg 5) x)) ∧ RC aC h' r0 b0 ca cv cp cm nn (jr_up rh 33 []) sg mu io bm nq nl lp fb fq fm) ∧ (px_sok tt (sg 5) x = true → q = some (.int (nI (px_cf S (sg 20) 12).1)) ∧ ∃ lp', RC aC h' r0 b0 ca cv cp cm nn (jr_up (jr_up rh 33 []) 30 (px_fo tt)) (va_up sg 20 (px_cf S (sg 20) 12).2) mu (upd io 19 (nI (px_cf S (sg 20) 12).1)) bm nq nl lp' fb fq fm)) := by
  have hx := hC.1
  have hsb := hC.2.1
  rw [htt] at hsb
  have hm : ∀ c : Nat, c ∉ ([] : List Nat) := fun _ => List.not_mem_nil
  have sub1 : ∀ {g g' : jjHp}, jj_fr [ca 1] g g' → jj_fr [ca 0, ca 1, ca 11] g g' := fun hf => hf.mono (fun c hc => by rw [List.mem_singleton.mp hc]; simp)
  have sub2 : ∀ {g g' : jjHp}, jj_fr [] g g' → jj_fr [ca 0, ca 1, ca 11] g g' := fun hf => hf.mono (fun c hc => by cases hc)
  have sub3 : ∀ {g g' : jjHp}, jj_fr [ca 0] g g' → jj_fr [ca 0, ca 1, ca 11] g g' := fun hf => hf.mono (fun c hc => by rw [List.mem_singleton.mp hc]; simp)
  have sub4 : ∀ {g g' : jjHp}, jj_fr [ca 11] g g' → jj_fr [ca 0, ca 1, ca 11] g g' := fun hf => hf.mono (fun c hc => by rw [List.mem_singleton.mp hc]; simp)
  obtain ⟨fB, fsB, hB0, hB1⟩ := hC.sb
  refine jj_start (tb := tb_BS_select) (by decide) tg_BS_select (Nat.le_of_ble_eq_true rfl) ?_
  intro p e s m args below meth cc C
  refine jj_go C 1 rfl ?_
  refine jj_callV C rfl ml_BS_104 wd_249 hx rfl se_BS_BS_taken (bs_taken hx rfl hsb) (rest := []) rfl rfl ⟨Nat.le_of_ble_eq_true rfl, Nat.le_of_ble_eq_true rfl⟩ (Nat.le_of_ble_eq_true rfl) (Nat.le_of_ble_eq_true rfl) (Nat.le_of_ble_eq_true rfl) ?_
  rintro q9 h1 ⟨z, zb, rfl, hz, hzb, hst, hs1, hf1⟩
  have hC1 := hC.taken hA hnq hf1 hs1
  have hx1 := hC1.1
  have hzb0 : zb ≠ b0 := fun q => by rw [q, hB0] at hzb; cases hzb
  have hr01 : h1 r0 = some er := hf1 _ _ (fun q => hr1 (List.mem_singleton.mp q)) hr0
  obtain ⟨fB1, fsB1, hB01, -⟩ := hC1.sb
  refine jj_go C 3 rfl ?_
  refine jj_callV C rfl ml_BS_138 wd_708 hx1 rfl se_BS_BS_queryAt (bs_queryAt (x := x) hx1 hC1.2.2.2.2.1 hnq) (rest := []) rfl rfl ⟨Nat.le_of_ble_eq_true rfl, Nat.le_of_ble_eq_true rfl⟩ (Nat.le_of_ble_eq_true rfl) (Nat.le_of_ble_eq_true rfl) (Nat.le_of_ble_eq_true rfl) ?_
  rintro q9 h9 ⟨rfl, hh9⟩
  rw [hh9]
  -- what follows once the query is known
  have cont : ∀ cv3 : Value, (x == -1 || px_at 6 (px_b (sg 5)) x) = true → ((x = -1 ∧ cv3 = .null) ∨ (¬ x = -1 ∧ px_at 6 (px_b (sg 5)) x = true ∧ ∃ qo, cv3 = .ref qo ∧ bs_at fq nq x = some qo)) → jj_J p l e (jj_rm 191 83 9576) s m args below meth cc D base 7 (MQ below (jj_Q D base (fun q h' => jj_fr [ca 0, ca 1, ca 11] h h' ∧ (px_sok tt (sg 5) x = false → q = some (.int (px_sno (sg 5) x)) ∧ RC aC h' r0 b0 ca cv cp cm nn (jr_up rh 33 []) sg mu io bm nq nl lp fb fq fm) ∧ (px_sok tt (sg 5) x = true → q = some (.int (nI (px_cf S (sg 20) 12).1)) ∧ ∃ lp', RC aC h' r0 b0 ca cv cp cm nn (jr_up (jr_up rh 33 []) 30 (px_fo tt)) (va_up sg 20 (px_cf S (sg 20) 12).2) mu (upd io 19 (nI (px_cf S (sg 20) 12).1)) bm nq nl lp' fb fq fm))) args s 83 9576 (jj_A base)) 23 [(0, .ref (ca 0)), (1, .int x), (2, .ref z), (3, cv3)] [] h1 2 146 := by
    intro cv3 hxx hc3
    refine jj_go C 1 rfl ?_
    refine jj_callS C rfl ml_BS_143 wd_326 (bs_patternIn2 (b0 := b0) (r0 := r0) hst hlen hB01 hr01 hzb0) (rest := []) rfl rfl ⟨Nat.le_of_ble_eq_true rfl, Nat.le_of_ble_eq_true rfl⟩ (Nat.le_of_ble_eq_true rfl) (Nat.le_of_ble_eq_true rfl) (Nat.le_of_ble_eq_true rfl) ?_
    rintro q9 h2 ⟨hf2, hr⟩
    have hC2 := hC1.new hA hf2
    rcases hr with ⟨hpa, pt, rfl, hpt, hok⟩ | ⟨hpa, rfl⟩
    rotate_left
    · have hsok : px_sok tt (sg 5) x = false := by
        unfold px_sok
        rw [px_rd_true, hpa, Bool.and_false]
      have hsno : px_sno (sg 5) x = -1 := if_pos hxx
      rcases hc3 with ⟨-, rfl⟩ | ⟨-, -, qo, rfl, -⟩
      · refine jj_go C 4 rfl ?_
        refine jj_iret C rfl rfl rfl (Nat.le_of_ble_eq_true rfl) (Nat.le_of_ble_eq_true rfl) ⟨(sub1 hf1).tr (sub2 hf2), (fun _ => ⟨by rw [hsno], hC2⟩), fun q => by rw [hsok] at q; cases q⟩
      · refine jj_go C 4 rfl ?_
        refine jj_iret C rfl rfl rfl (Nat.le_of_ble_eq_true rfl) (Nat.le_of_ble_eq_true rfl) ⟨(sub1 hf1).tr (sub2 hf2), (fun _ => ⟨by rw [hsno], hC2⟩), fun q => by rw [hsok] at q; cases q⟩
    have hsok : px_sok tt (sg 5) x = true := by
      unfold px_sok
      rw [px_rd_true, hpa, hxx]
      rfl
    have hfne : px_fo tt ≠ [] := by
      intro q
      have := congrArg List.length q
      rw [px_fo_len hpa, List.length_nil] at this
      have := (px_pa_i.mp hpa).2.1
      omega
    obtain ⟨tx, txb, st, en, Sf, Ef, fm9, fmb9, p1, p2, p3, n1, n2, n3, n4⟩ := hok
    have hok2 : pt_okb aC h2 pt tt b0 r0 := ⟨tx, txb, st, en, Sf, Ef, fm9, fmb9, p1, p2, p3, n1, n2, n3, n4⟩
    suffices H29 : jj_J p l e (jj_rm 191 83 9576) s m args below meth cc D base 7 (MQ below (jj_Q D base (fun q h' => jj_fr [ca 0, ca 1, ca 11] h h' ∧ (px_sok tt (sg 5) x = false → q = some (.int (px_sno (sg 5) x)) ∧ RC aC h' r0 b0 ca cv cp cm nn (jr_up rh 33 []) sg mu io bm nq nl lp fb fq fm) ∧ (px_sok tt (sg 5) x = true → q = some (.int (nI (px_cf S (sg 20) 12).1)) ∧ ∃ lp', RC aC h' r0 b0 ca cv cp cm nn (jr_up (jr_up rh 33 []) 30 (px_fo tt)) (va_up sg 20 (px_cf S (sg 20) 12).2) mu (upd io 19 (nI (px_cf S (sg 20) 12).1)) bm nq nl lp' fb fq fm))) args s 83 9576 (jj_A base)) 29 [(0, .ref (ca 0)), (1, .int x), (2, .ref z), (3, cv3), (4, .ref pt)] [] h2 71 9504 by
      rcases hc3 with ⟨-, rfl⟩ | ⟨-, -, qo, rfl, -⟩
      · refine jj_go C 1 rfl ?_
        exact H29
      · refine jj_go C 1 rfl ?_
        exact H29
    refine jj_go C 4 rfl ?_
    refine jj_getf C rfl fl_BS_70 p1.1 rfl ?_
    refine jj_putf C rfl fl_BS_54 hC2.1 rfl rfl (Nat.le_of_ble_eq_true rfl) ?_
    obtain ⟨fB2, fsB2, hB02, -⟩ := hC2.sb
    have hSz : SF aC h2 r0 b0 [ca 0] := (SF.nil hB02).cons hC2.1 (bz_o (by decide))
    have hfa : jj_fr [ca 0] h2 (jj_up h2 (ca 0) (.inr (0, bs_fs ca nq (io 19) fm9))) := jj_fr.rf.up (Or.inl List.mem_cons_self)
    have hCa := RC.self (rh' := jr_up (jr_up rh 33 []) 30 (px_fo tt)) (io' := io) (nq' := nq) (lp' := fm9) hC2 hA ⟨rfl, rfl⟩ ((hC2.2.2.2.2.2.1.sf hSz hfa).cg (fun i hi => jr_up_n (by omega))) (Or.inr ⟨by rw [jr_up_s]; exact hfne, fmb9, by rw [jr_up_s]; exact p3.sf n2 hSz hfa, n2⟩) (fun k hk => jr_up_n (by omega))
    have hoka := hok2.sf hA hSz hfa
    refine jj_eq (h' := jj_up h2 (ca 0) (.inr (0, bs_fs ca nq (io 19) fm9))) rfl rfl rfl rfl ?_
    generalize jj_up h2 (ca 0) (.inr (0, bs_fs ca nq (io 19) fm9)) = h3 at hfa hCa hoka ⊢
    refine jj_go C 2 rfl ?_
    refine jj_putf C rfl fl_BS_49 hCa.1 rfl rfl (Nat.le_of_ble_eq_true rfl) ?_
    obtain ⟨fB3, fsB3, hB03, -⟩ := hCa.sb
    have hS3 : SF aC h3 r0 b0 [ca 0] := (SF.nil hB03).cons hCa.1 (bz_o (by decide))
    have hfb : jj_fr [ca 0] h3 (jj_up h3 (ca 0) (.inr (0, bs_fs ca nq (upd io 19 0 19) fm9))) := jj_fr.rf.up (Or.inl List.mem_cons_self)
    have hCb := RC.self (rh' := jr_up (jr_up rh 33 []) 30 (px_fo tt)) (io' := upd io 19 0) (nq' := nq) (lp' := fm9) hCa hA ⟨rfl, rfl⟩ (hCa.2.2.2.2.2.1.sf hS3 hfb) (hCa.2.2.2.2.2.2.2.2.2.2.sf hS3 hfb) (fun k hk => rfl)
    have hokb := hoka.sf hA hS3 hfb
    refine jj_eq (h' := jj_up h3 (ca 0) (.inr (0, bs_fs ca nq (upd io 19 0 19) fm9))) rfl rfl rfl rfl ?_
    generalize jj_up h3 (ca 0) (.inr (0, bs_fs ca nq (upd io 19 0 19) fm9)) = h4 at hfb hCb hokb ⊢
    have hf4 : jj_fr [ca 0, ca 1, ca 11] h h4 := (((sub1 hf1).tr (sub2 hf2)).tr (sub3 hfa)).tr (sub3 hfb)
    -- the beans
    have loop : ∀ (k i : Nat) (v : Int32) (g : jjHp), v = nI i → i + k = 12 → RC aC g r0 b0 ca cv cp cm nn (jr_up (jr_up rh 33 []) 30 (px_fo tt)) (va_up sg 20 (px_cf S (sg 20) i).2) mu (upd io 19 (nI (px_cf S (sg 20) i).1)) bm nq nl fm9 fb fq fm → pt_okb aC g pt tt b0 r0 → jj_fr [ca 0, ca 1, ca 11] h g → jj_J p l e (jj_rm 191 83 9576) s m args below meth cc D base 7 (MQ below (jj_Q D base (fun q h' => jj_fr [ca 0, ca 1, ca 11] h h' ∧ (px_sok tt (sg 5) x = false → q = some (.int (px_sno (sg 5) x)) ∧ RC aC h' r0 b0 ca cv cp cm nn (jr_up rh 33 []) sg mu io bm nq nl lp fb fq fm) ∧ (px_sok tt (sg 5) x = true → q = some (.int (nI (px_cf S (sg 20) 12).1)) ∧ ∃ lp', RC aC h' r0 b0 ca cv cp cm nn (jr_up (jr_up rh 33 []) 30 (px_fo tt)) (va_up sg 20 (px_cf S (sg 20) 12).2) mu (upd io 19 (nI (px_cf S (sg 20) 12).1)) bm nq nl lp' fb fq fm))) args s 83 9576 (jj_A base)) 53 [(0, .ref (ca 0)), (1, .int x), (2, .ref z), (3, cv3), (4, .ref pt), (5, .int v)] [] g (71 + i) (9504 + 6 * i) := by
      intro k
      induction k with
      | zero =>
        intro i v g hv hk hCg hokg hfg
        have hi : i = 12 := by omega
        subst hi
        refine jj_go C 2 rfl ?_
        refine jj_if C rfl (fun _ => ?_) (fun z => absurd (by rw [hv]; decide) z)
        refine jj_go C 1 rfl ?_
        refine jj_getf C rfl fl_BS_49 hCg.1 rfl ?_
        refine jj_iret C rfl rfl rfl (Nat.le_of_ble_eq_true rfl) (Nat.le_of_ble_eq_true rfl) ⟨hfg, (fun q => by rw [hsok] at q; cases q), fun _ => ⟨rfl, fm9, hCg⟩⟩
      | succ k ih =>
        intro i v g hv hk hCg hokg hfg
        have hlt : i < 12 := by omega
        have hcl := px_cf_le (S := S) (F := sg 20) i
        have hcs : px_cf S (sg 20) (i + 1) = if S i = true then ((px_cf S (sg 20) i).1 + 1, upd (px_cf S (sg 20) i).2 (px_cf S (sg 20) i).1 (nI i)) else px_cf S (sg 20) i := rfl
        have skip : S i = false → ∀ (v6 : Value) (g2 : jjHp) (kc ks : Nat), kc ≤ 71 + (i + 1) → ks ≤ 9504 + 6 * (i + 1) → RC aC g2 r0 b0 ca cv cp cm nn (jr_up (jr_up rh 33 []) 30 (px_fo tt)) (va_up sg 20 (px_cf S (sg 20) i).2) mu (upd io 19 (nI (px_cf S (sg 20) i).1)) bm nq nl fm9 fb fq fm → pt_okb aC g2 pt tt b0 r0 → jj_fr [ca 0, ca 1, ca 11] h g2 → jj_J p l e (jj_rm 191 83 9576) s m args below meth cc D base 7 (MQ below (jj_Q D base (fun q h' => jj_fr [ca 0, ca 1, ca 11] h h' ∧ (px_sok tt (sg 5) x = false → q = some (.int (px_sno (sg 5) x)) ∧ RC aC h' r0 b0 ca cv cp cm nn (jr_up rh 33 []) sg mu io bm nq nl lp fb fq fm) ∧ (px_sok tt (sg 5) x = true → q = some (.int (nI (px_cf S (sg 20) 12).1)) ∧ ∃ lp', RC aC h' r0 b0 ca cv cp cm nn (jr_up (jr_up rh 33 []) 30 (px_fo tt)) (va_up sg 20 (px_cf S (sg 20) 12).2) mu (upd io 19 (nI (px_cf S (sg 20) 12).1)) bm nq nl lp' fb fq fm))) args s 83 9576 (jj_A base)) 132 [(0, .ref (ca 0)), (1, .int x), (2, .ref z), (3, cv3), (4, .ref pt), (5, .int v), (6, v6)] [] g2 kc ks := by
          intro hSi v6 g2 kc ks k1 k2 hC2' hok2' hf2'
          rw [if_neg (by rw [hSi]; decide)] at hcs
          refine jj_go C 2 rfl ?_
          refine jj_less (lc' := [(0, .ref (ca 0)), (1, .int x), (2, .ref z), (3, cv3), (4, .ref pt), (5, .int (v + 1))]) (fun q hq => List.mem_append_left [_] hq) k1 k2 ?_
          exact ih (i + 1) (v + 1) g2 (by rw [hv, nI_1]) (by omega) (by rw [hcs]; exact hC2') hok2' hf2'
        have choose : S i = true → ∀ (v6 : Value) (g2 : jjHp) (kc ks : Nat), kc ≤ 71 + (i + 1) → ks ≤ 9504 + 6 * (i + 1) → RC aC g2 r0 b0 ca cv cp cm nn (jr_up (jr_up rh 33 []) 30 (px_fo tt)) (va_up sg 20 (px_cf S (sg 20) i).2) mu (upd io 19 (nI (px_cf S (sg 20) i).1)) bm nq nl fm9 fb fq fm → pt_okb aC g2 pt tt b0 r0 → jj_fr [ca 0, ca 1, ca 11] h g2 → jj_J p l e (jj_rm 191 83 9576) s m args below meth cc D base 7 (MQ below (jj_Q D base (fun q h' => jj_fr [ca 0, ca 1, ca 11] h h' ∧ (px_sok tt (sg 5) x = false → q = some (.int (px_sno (sg 5) x)) ∧ RC aC h' r0 b0 ca cv cp cm nn (jr_up rh 33 []) sg mu io bm nq nl lp fb fq fm) ∧ (px_sok tt (sg 5) x = true → q = some (.int (nI (px_cf S (sg 20) 12).1)) ∧ ∃ lp', RC aC h' r0 b0 ca cv cp cm nn (jr_up (jr_up rh 33 []) 30 (px_fo tt)) (va_up sg 20 (px_cf S (sg 20) 12).2) mu (upd io 19 (nI (px_cf S (sg 20) 12).1)) bm nq nl lp' fb fq fm))) args s 83 9576 (jj_A base)) 111 [(0, .ref (ca 0)), (1, .int x), (2, .ref z), (3, cv3), (4, .ref pt), (5, .int v), (6, v6)] [] g2 kc ks := by
          intro hSi v6 g2 kc ks k1 k2 hC2' hok2' hf2'
          rw [if_pos hSi] at hcs
          generalize (px_cf S (sg 20) i).1 = cn at hcs hcl hC2'
          generalize (px_cf S (sg 20) i).2 = cF at hcs hC2'
          have hs2 := hC2'.2.2.2.2.2.2.2.2.2.1
          subst hv
          refine jj_go C 1 rfl ?_
          refine jj_getf C rfl fl_BS_45 hC2'.1 rfl ?_
          refine jj_go C 1 rfl ?_
          refine jj_getf C rfl fl_BS_49 hC2'.1 rfl ?_
          refine jj_top (show upd io 19 (nI cn) 19 = nI cn from rfl) ?_
          refine jj_go C 1 rfl ?_
          refine jj_iast C (n := 12) (f := cF) (j := cn) rfl hs2 rfl (by omega) (by decide) ?_
          have hC3' := hC2'.selarr hA (upd cF cn (nI i))
          have hf3' : jj_fr [ca 11] g2 (jj_up g2 (ca 11) (.inl (aC 0, 12, .inl (upd cF cn (nI i))))) := jj_fr.rf.up (Or.inl List.mem_cons_self)
          obtain ⟨fBg, fsBg, hB0g, -⟩ := hC2'.sb
          have hSg : SF aC g2 r0 b0 [ca 11] := (SF.nil hB0g).cons hs2 (bz_a hA (by decide) (by decide) (by decide))
          have hok3' := hok2'.sf hA hSg hf3'
          refine jj_eq (h' := jj_up g2 (ca 11) (.inl (aC 0, 12, .inl (upd cF cn (nI i))))) rfl rfl rfl rfl ?_
          generalize jj_up g2 (ca 11) (.inl (aC 0, 12, .inl (upd cF cn (nI i)))) = g3 at hC3' hf3' hok3' ⊢
          rw [bx_uu] at hC3'
          refine jj_go C 2 rfl ?_
          refine jj_getf C rfl fl_BS_49 hC3'.1 rfl ?_
          refine jj_top (show upd io 19 (nI cn) 19 = nI cn from rfl) ?_
          refine jj_go C 2 rfl ?_
          refine jj_top (nI_1 cn) ?_
          refine jj_putf C rfl fl_BS_49 hC3'.1 rfl rfl (Nat.le_of_ble_eq_true rfl) ?_
          obtain ⟨fB9, fsB9, hB09, -⟩ := hC3'.sb
          have hS9 : SF aC g3 r0 b0 [ca 0] := (SF.nil hB09).cons hC3'.1 (bz_o (by decide))
          have hf9 : jj_fr [ca 0] g3 (jj_up g3 (ca 0) (.inr (0, bs_fs ca nq (upd io 19 (nI (cn + 1)) 19) fm9))) := jj_fr.rf.up (Or.inl List.mem_cons_self)
          have hC9 := RC.self (rh' := jr_up (jr_up rh 33 []) 30 (px_fo tt)) (io' := upd io 19 (nI (cn + 1))) (nq' := nq) (lp' := fm9) hC3' hA ⟨rfl, rfl⟩ (hC3'.2.2.2.2.2.1.sf hS9 hf9) (hC3'.2.2.2.2.2.2.2.2.2.2.sf hS9 hf9) (fun k hk => rfl)
          have hok9 := hok3'.sf hA hS9 hf9
          refine jj_eq (h' := jj_up g3 (ca 0) (.inr (0, bs_fs ca nq (upd io 19 (nI (cn + 1)) 19) fm9))) rfl rfl rfl rfl ?_
          generalize jj_up g3 (ca 0) (.inr (0, bs_fs ca nq (upd io 19 (nI (cn + 1)) 19) fm9)) = g4 at hf9 hC9 hok9 ⊢
          refine jj_go C 2 rfl ?_
          refine jj_less (lc' := [(0, .ref (ca 0)), (1, .int x), (2, .ref z), (3, cv3), (4, .ref pt), (5, .int (nI i + 1))]) (fun q hq => List.mem_append_left [_] hq) k1 k2 ?_
          exact ih (i + 1) (nI i + 1) g4 (nI_1 i) (by omega) (by rw [hcs]; exact hC9) hok9 ((hf2'.tr (sub4 hf3')).tr (sub3 hf9))
        refine jj_go C 2 rfl ?_
        refine jj_if C rfl (fun z => absurd z (by rw [hv]; exact nI_ge (b := 12) hlt (by decide))) (fun _ => ?_)
        refine jj_go C 1 rfl ?_
        refine jj_getf C rfl fl_BS_18 hCg.1 rfl ?_
        refine jj_go C 1 rfl ?_
        refine jj_aald C 5 rfl hCg.2.2.1 rfl hv hlt (by decide) ?_
        rcases hCg.2.2.2.1 i hlt with ⟨q1, q2⟩ | ⟨q1, be, q2, ptb, V, B, b1, b2, b3, b4, b5⟩
        · have q1 : sg 2 i = 0 := q1
          rw [q2]
          refine jj_go C 3 rfl ?_
          exact skip (hS0 i hlt q1) _ g _ _ (by omega) (by omega) hCg hokg hfg
        · have q1 : ¬ sg 2 i = 0 := q1
          rw [q2]
          refine jj_go C 5 rfl ?_
          refine jj_getf C rfl fl_BS_147 b1 rfl ?_
          have hokg0 := hokg
          obtain ⟨y1, y2, y3, y4, y5, y6, y7, y8, pg, y9⟩ := hokg0
          refine jj_callV C rfl ml_BS_151 wd_715 pg.1 rfl se_PT_PT_fits (pt_fits (G := px_fit tt (nn i)) hokg.ok hpa b2.ok (hnn i hlt q1) rfl) (rest := []) rfl rfl ⟨(Nat.le_of_ble_eq_true rfl), (Nat.le_of_ble_eq_true rfl)⟩ (by show 71 + i + 0 ≤ 83; omega) (by show 9504 + 6 * i + 0 ≤ 9576; omega) (Nat.le_of_ble_eq_true rfl) ?_
          rintro q9 h9 ⟨rfl, hh9⟩
          rw [hh9]
          cases hfit : px_fit tt (nn i) with
          | false =>
            refine jj_if C rfl (fun _ => ?_) (fun z => absurd rfl z)
            exact skip (hS1 i hlt q1 hfit) _ g _ _ (by omega) (by omega) hCg hokg hfg
          | true =>
            refine jj_if C rfl (fun z => absurd z (by decide)) (fun _ => ?_)
            rcases hc3 with ⟨e1, e3⟩ | ⟨e1, e2, qo, e3, e4⟩
            · subst e3
              refine jj_go C 2 rfl ?_
              exact choose (hS2 e1 i hlt q1 hfit) _ g _ _ (by omega) (by omega) hCg hokg hfg
            · subst e3
              obtain ⟨n, f, j0, k0, A, hn, hxn, hq, hfo, hfl, hSA⟩ := hQ e1 e2
              have hSi := hSA i hlt q1 hfit
              obtain ⟨qo', tx', txb', c1, c2, c3, c4⟩ := hCg.2.2.2.2.2.1 n hn
              rw [hxn, bs_at_n hn (by omega), c1] at e4
              cases e4
              rw [jr_up_n (by omega), jr_up_n (by omega), hfo] at c3
              rw [hfo] at hfl
              obtain ⟨f', j', k', hQ', -⟩ := hq.form 2 (Nat.le_refl _) 0 0 ⟨fun q => (by cases q), fun q => (by cases q)⟩
              refine jj_go C 2 rfl ?_
              refine jj_new C rfl nw_BS_111 (by show 71 + i + 0 + 1 ≤ 83; omega) (by show 9504 + 6 * i + 0 + 6 ≤ 9576; omega) (fun qr hqr => ?_)
              have hfq : jj_fr [] g (jj_up g qr (.inr (5, [.null, .null, .int 0, .int 0, .int 0, .int 0]))) := jj_fr.rf.up (Or.inr hqr)
              have hsx : jj_up g qr (.inr (5, [.null, .null, .int 0, .int 0, .int 0, .int 0])) qr = some (.inr (5, [.null, .null, .int 0, .int 0, .int 0, .int 0])) := jj_up_s
              generalize jj_up g qr (.inr (5, [.null, .null, .int 0, .int 0, .int 0, .int 0])) = g1 at hfq hsx ⊢
              have c31 := c3.keep hfq (hm _) (hm _)
              refine jj_go C 2 rfl ?_
              refine jj_getf C rfl fl_BS_142 (hfq _ _ (hm _) c2) rfl ?_
              refine jj_go C 1 rfl ?_
              refine jj_callI C rfl ml_BS_113 wd_553 rfl (qr_init_r (be := be) hsx c31 hfl) (rest := [.ref qr]) rfl rfl ⟨(Nat.le_of_ble_eq_true rfl), (Nat.le_of_ble_eq_true rfl)⟩ (by show 71 + i + 0 + 1 + 0 ≤ 83; omega) (by show 9504 + 6 * i + 0 + 6 + 0 ≤ 9576; omega) (Nat.le_of_ble_eq_true rfl) ?_
              rintro q9 g2 ⟨rfl, rfl⟩
              have hokr : qr_ok aC g1 qr tx' txb' (.ref be) (f 0 0) (rr_E sg i) := ⟨c31, Or.inr ⟨be, cv i, cp i, .ref ptb, V, B, rfl, hfq _ _ (hm _) b1, hfq _ _ (hm _) b3, hfq _ _ (hm _) b4, fun a ha => by
                obtain ⟨v1, v2⟩ := b5 a ha
                have v1 : V a = sg 3 (5 * i + a) := v1
                have v2 : B a = sg 4 (5 * i + a) := v2
                unfold rr_E
                rw [v1, v2]⟩, hfl, ⟨_, hsx⟩⟩
              have hw := qr_w_o (h0 := g1) (qr := qr) (tx := tx') (bv := .ref be) (t := f 0 0) (p := 0) (wr := false) (fl := false)
              refine jj_callV C rfl ml_BS_116 wd_583 hw rfl se_QR_QR_any (qr_answer hQ' hfl hokr) (rest := []) rfl rfl ⟨(Nat.le_of_ble_eq_true rfl), (Nat.le_of_ble_eq_true rfl)⟩ (by show 71 + i + 0 + 1 + 0 + 0 ≤ 83; omega) (by show 9504 + 6 * i + 0 + 6 + 0 + 0 ≤ 9576; omega) (Nat.le_of_ble_eq_true rfl) ?_
              rintro q9 g3 ⟨rfl, p', wr', fl', hh3⟩
              have hf3 : jj_fr [] g g3 := by
                rw [hh3]
                unfold qr_w
                exact hfq.up (Or.inr hqr)
              have hCn := hCg.new hA hf3
              obtain ⟨fBn, fsBn, hB0n, -⟩ := hCg.sb
              have hokn := hokg.sf hA (SF.nil hB0n) hf3
              have hle := hq.le2 (rr_E sg i)
              refine jj_go C 1 rfl ?_
              refine jj_if C rfl (fun z2 => ?_) (fun z2 => ?_)
              · have g9 := (nI_eq (a := A (rr_E sg i)) (b := 1) (by omega) (by decide)).mp z2
                rw [g9] at hSi
                exact choose hSi _ g3 _ _ (by omega) (by omega) hCn hokn (hfg.tr (sub2 hf3))
              · have g9 : ¬ A (rr_E sg i) = 1 := fun q => z2 (by rw [q]; rfl)
                rw [beq_eq_false_iff_ne.mpr g9] at hSi
                exact skip hSi _ g3 _ _ (by omega) (by omega) hCn hokn (hfg.tr (sub2 hf3))
    refine jj_go C 2 rfl ?_
    refine loop 12 0 0 h4 nI_0.symm rfl ?_ hokb hf4
    refine hCb.sgc (fun k hk => ?_) rfl hCb.2.2.2.2.2.2.2.2.1
    show va_up sg 20 (sg 20) k = sg k
    rw [rr_up_same]
  rcases hC1.2.2.2.2.2.1.at (sg := sg) hnq h5 x with ⟨q1, q2⟩ | ⟨i, qo, tx, txb, hi, hxi, q1, -, -, -, q2⟩
  · rw [q1]
    refine jj_go C 5 rfl ?_
    refine jj_if C rfl (fun zx => ?_) (fun zx => ?_)
    · exact cont .null (by rw [zx]; rfl) (Or.inl ⟨zx, rfl⟩)
    · have hxx : (x == -1 || px_at 6 (px_b (sg 5)) x) = false := by
        rw [q2, show (x == -1) = false from beq_eq_false_iff_ne.mpr zx]
        rfl
      have hsok : px_sok tt (sg 5) x = false := by
        unfold px_sok
        rw [hxx, Bool.false_and]
      have hsno : px_sno (sg 5) x = -2 := if_neg (by rw [hxx]; decide)
      refine jj_go C 1 rfl ?_
      refine jj_iret C rfl rfl rfl (Nat.le_of_ble_eq_true rfl) (Nat.le_of_ble_eq_true rfl) ⟨sub1 hf1, (fun _ => ⟨by rw [hsno], hC1⟩), fun q => by rw [hsok] at q; cases q⟩
  · have hne : ¬ x = -1 := by
      intro q
      rw [q] at hxi
      exact absurd (show (nI i) < 0 by rw [← hxi]; decide) (nI_pos (by omega))
    rw [q1]
    refine jj_go C 3 rfl ?_
    exact cont (.ref qo) (by rw [q2, Bool.or_true]) (Or.inr ⟨hne, q2, qo, rfl, q1⟩)
end PK
