/-! The class's and the reference's states together -/
theorem QQ.ne {lv : Nat} {s : List Nat} {f : Nat → Nat → List Nat} {j k : Nat} {A : (Nat → Option Int32) → Nat} (h : QQ lv s f j k A) : s ≠ [] := by
  refine h.ind (M := fun lv s f j k A => s ≠ []) ⟨?_, ?_, ?_, ?_, ?_, ?_⟩
  · intro u o r u' o' h1 h2 h3
    exact ⟨QQ.cmp h1 h2 h3, by simp⟩
  · intro s f j k A h
    exact ⟨h.1.neg, by simp⟩
  · intro s f j k A h
    exact ⟨h.1.par, by simp⟩
  · intro s f j k A s' f' j' k' A' h h'
    exact ⟨h.1.and h'.1, by simp⟩
  · intro s f j k A s' f' j' k' A' h h'
    exact ⟨h.1.or h'.1, by simp⟩
  · intro lv lv' s f j k A h hl
    exact ⟨h.1.up hl, h.2⟩
section IVA
variable {aC : Nat → ClassId} {h h' : jjHp} {y r0 b0 : Nat} {ad ca cv cp cm : Nat → Nat} {nn rh rh' rh0 : Nat → List Nat} {sg sg' sg0 : Nat → Nat → Int32} {mu mu0 : Nat → Int64} {io io' io0 : Nat → Int32} {bm nq nl lp : Nat} {fb fq fm : Nat → Option Nat}
theorem RR.cell (hR : RR aC h y ad rh sg mu io) {c : Nat} (hc : c ∈ rr_S y ad) : h c = some (.inr (9, rr_fs ad io)) ∨ h c = some (.inl (aC 3, 6, .inr (.inl mu))) ∨ ∃ k f, k ∈ rr_ks ∧ c = ad k ∧ h c = some (.inl (aC (rr_ty k), rr_len k, .inl f)) := by
  obtain ⟨L, S, ⟨a1, a2, a3, -⟩, -⟩ := hR
  rcases List.mem_cons.mp hc with q | q
  · exact Or.inl (by rw [q]; exact a1)
  · obtain ⟨k, hk, hkc⟩ := List.mem_map.mp q
    rcases List.mem_cons.mp hk with q | q
    · exact Or.inr (Or.inl (by rw [← hkc, q]; exact a3))
    · exact Or.inr (Or.inr ⟨k, _, q, hkc.symm, by rw [← hkc]; exact a2 k q⟩)
theorem RR.keepS {S : List Nat} (hR : RR aC h y ad rh sg mu io) (hf : jj_fr S h h') (hS : ∀ c, c ∈ S → c ∉ rr_S y ad) : RR aC h' y ad rh sg mu io := by
  obtain ⟨L, T, ⟨a1, a2, a3, a4⟩, b⟩ := hR
  exact ⟨L, T, ⟨hf _ _ (fun q => hS _ q rr_S_y) a1, fun k hk => hf _ _ (fun q => hS _ q (rr_S_k (List.mem_cons_of_mem _ hk))) (a2 k hk), hf _ _ (fun q => hS _ q (rr_S_k List.mem_cons_self)) a3, a4⟩, b⟩
/-- the cells that the class may change -/
def CQ (ca cv cp cm : Nat → Nat) (b0 : Nat) (sg : Nat → Nat → Int32) (c : Nat) : Prop := (∃ k, k < 12 ∧ k ≠ 2 ∧ c = ca k) ∨ c = b0 ∨ (∃ i, i < 12 ∧ ¬ sg 2 i = 0 ∧ (c = cv i ∨ c = cp i)) ∨ ∃ i, i < 6 ∧ ¬ sg 6 i = 0 ∧ c = cm i
theorem cq_tab : ∀ k, k < 12 → k ≠ 2 → ∀ j, j ∈ rr_ks → (if k = 0 then 0 else if k = 1 then 11 else if k = 3 then 112 else if k = 4 then 106 else if k = 5 then 106 else if k = 6 then 2 else if k = 11 then 212 else 216) = 200 + rr_len j → k = 11 ∧ (j = 20 ∨ rr_ty j = 1) := by decide
theorem cq_tab2 : ∀ k, k < 12 → k ≠ 2 → (if k = 0 then 0 else if k = 1 then 11 else if k = 3 then 112 else if k = 4 then 106 else if k = 5 then 106 else if k = 6 then 2 else if k = 11 then 212 else 216) ≠ 9 ∧ (if k = 0 then 0 else if k = 1 then 11 else if k = 3 then 112 else if k = 4 then 106 else if k = 5 then 106 else if k = 6 then 2 else if k = 11 then 212 else 216) ≠ 1006 := by decide
theorem rr_ty_le : ∀ k, k ∈ rr_ks → rr_ty k < 3 := by decide
theorem rr_len_5 : ∀ k, k ∈ rr_ks → rr_len k ≠ 5 := by decide
theorem rr_len_26 : ∀ k, k ∈ rr_ks → rr_len k = 26 → k = 21 := by decide
theorem CQ.off (hA : jA aC) (hC : RC aC h r0 b0 ca cv cp cm nn rh sg mu io bm nq nl lp fb fq fm) (hR : RR aC h y ad rh0 sg0 mu0 io0) (h11 : ca 11 ≠ ad 20) {c : Nat} (hq : CQ ca cv cp cm b0 sg c) : c ∉ rr_S y ad := by
  intro hm
  have hcl := hR.cell hm
  have kind : ∀ {e : va_E}, h c = some e → cK e ≠ 9 → cK e ≠ 1006 → (∀ k, k ∈ rr_ks → cK e ≠ 200 + rr_len k) → False := by
    intro e he k9 k10 kk
    rcases hcl with q | q | ⟨k, f, q1, q2, q3⟩
    · rw [he] at q
      cases q
      exact k9 rfl
    · rw [he] at q
      cases q
      exact k10 rfl
    · rw [he] at q3
      cases q3
      exact kk k q1 rfl
  rcases hq with ⟨k, k1, k2, rfl⟩ | rfl | ⟨i, i1, i2, i3⟩ | ⟨i, i1, i2, rfl⟩
  · obtain ⟨e, he, hk⟩ := hC.kinds k k1 k2
    obtain ⟨t1, t2⟩ := cq_tab2 k k1 k2
    rcases hcl with q | q | ⟨j, f, q1, q2, q3⟩
    · rw [he] at q
      cases q
      exact t1 hk.symm
    · rw [he] at q
      cases q
      exact t2 hk.symm
    · have q4 := q3
      rw [he] at q3
      cases q3
      obtain ⟨z1, z2⟩ := cq_tab k k1 k2 j q1 hk.symm
      subst z1
      rcases z2 with z | z
      · subst z
        exact h11 q2
      · rw [z] at q4
        exact cl_ne hA 0 1 (by decide) (by decide) hC.2.2.2.2.2.2.2.2.2.1 q4 (by decide) rfl
  · obtain ⟨f, fs, hb, -⟩ := hC.sb
    rcases hcl with q | q | ⟨j, g, q1, q2, q3⟩
    · rw [hb] at q
      cases q
    · exact cl_ne hA 4 3 (by decide) (by decide) hb q (by decide) rfl
    · have := rr_ty_le j q1
      exact cl_ne hA 4 (rr_ty j) (by decide) (by omega) hb q3 (by omega) rfl
  · rcases hC.2.2.2.1 i i1 with ⟨q, -⟩ | ⟨-, be, -, pt, V, B, -, -, c3, c4, -⟩
    · exact i2 q
    · rcases i3 with rfl | rfl
      · exact kind c3 (show (205 : Nat) ≠ 9 by decide) (show (205 : Nat) ≠ 1006 by decide) (fun k hk q => rr_len_5 k hk (by have : 205 = 200 + rr_len k := q; omega))
      · exact kind c4 (show (205 : Nat) ≠ 9 by decide) (show (205 : Nat) ≠ 1006 by decide) (fun k hk q => rr_len_5 k hk (by have : 205 = 200 + rr_len k := q; omega))
  · rcases hC.2.2.2.2.2.2.2.1 i i1 with ⟨z, -⟩ | ⟨-, -, nm, nmb, -, -, ⟨-, T, z, -⟩ | ⟨-, sd, z, -⟩⟩
    · exact i2 z
    · exact kind z (show (7 : Nat) ≠ 9 by decide) (show (7 : Nat) ≠ 1006 by decide) (fun k hk q => by have : 7 = 200 + rr_len k := q; omega)
    · exact kind z (show (8 : Nat) ≠ 9 by decide) (show (8 : Nat) ≠ 1006 by decide) (fun k hk q => by have : 8 = 200 + rr_len k := q; omega)
/-- the reference's calls leave the class as it is -/
theorem RC.keepR (hA : jA aC) (hC : RC aC h (ad 21) b0 ca cv cp cm nn rh sg mu io bm nq nl lp fb fq fm) (hR : RR aC h y ad rh0 sg0 mu0 io0) (h11 : ca 11 ≠ ad 20) (hf : jj_fr (rr_S y ad) h h') : RC aC h' (ad 21) b0 ca cv cp cm nn rh sg mu io bm nq nl lp fb fq fm := by
  obtain ⟨fB, fsB, hB0, -⟩ := hC.sb
  have off : ∀ {c}, CQ ca cv cp cm b0 sg c → c ∉ rr_S y ad := fun hq => CQ.off hA hC hR h11 hq
  refine hC.keep hA ⟨⟨_, _, hB0⟩, fun c hc => Or.inr (fun e he => ?_)⟩ hf (fun k k1 k2 => off (Or.inl ⟨k, k1, k2, rfl⟩)) (off (Or.inr (Or.inl rfl))) (fun i i1 i2 => ⟨off (Or.inr (Or.inr (Or.inl ⟨i, i1, i2, Or.inl rfl⟩))), off (Or.inr (Or.inr (Or.inl ⟨i, i1, i2, Or.inr rfl⟩)))⟩) (fun i i1 i2 => off (Or.inr (Or.inr (Or.inr ⟨i, i1, i2, rfl⟩))))
  rcases hR.cell hc with q | q | ⟨k, f, q1, q2, q3⟩
  · rw [he] at q
    cases q
    exact bz_o (by decide)
  · rw [he] at q
    cases q
    exact bz_a hA (by decide) (by decide) (by decide)
  · rw [he] at q3
    cases q3
    have := rr_ty_le k q1
    refine ⟨fun a b q => (by cases q), fun k' n' d' q => ?_⟩
    have e1 : aC (rr_ty k) = k' := by
      have := congrArg (fun z : va_E => match z with | .inl (k, _) => some k | _ => none) q
      exact Option.some.inj this
    have e2 : rr_len k = n' := by
      have := congrArg (fun z : va_E => match z with | .inl (_, n, _) => some n | _ => none) q
      exact Option.some.inj this
    refine ⟨fun z => ?_, fun z => ?_⟩
    · have := hA (rr_ty k) 4 (by omega) (by decide) (e1.trans z)
      omega
    · rw [q2, rr_len_26 k q1 (e2.trans z)]
theorem RC.sc (hC : RC aC h r0 b0 ca cv cp cm nn rh sg mu io bm nq nl lp fb fq fm) (hnq : nq ≤ 6) (hs : sc rh sg io rh' sg' io') : RC aC h r0 b0 ca cv cp cm nn rh' sg' mu io' bm nq nl lp fb fq fm := by
  obtain ⟨s1, s2, s3⟩ := hs
  obtain ⟨hx, hsb, hb, hB, hq, hQ, hm, hM, hL, hs, hP⟩ := hC
  have hC1 : RC aC h r0 b0 ca cv cp cm nn rh' sg mu io bm nq nl lp fb fq fm := ⟨hx, by rw [s1 33 (by decide) (by decide)]; exact hsb, hb, hB, hq, hQ.cg (fun i hi => s1 _ (by omega) (by omega)), hm, hM.cg (fun i hi => s1 _ (by omega) (by omega)), hL, hs, hP.cg (s1 30 (by decide) (by decide))⟩
  refine hC1.sgc (fun k hk => s2 k (by revert hk; revert k; decide) (by revert hk; revert k; decide)) (s3 19 (by decide) (by decide) (by decide)) ?_
  rw [s2 18 (by decide) (by decide), s3 15 (by decide) (by decide) (by decide), s3 16 (by decide) (by decide) (by decide)]
  exact hL
/-- what is kept from call to call, of texts and numbers -/
def PI (nn rh : Nat → List Nat) (sg : Nat → Nat → Int32) (io : Nat → Int32) (nq nl : Nat) : Prop := (∀ i, i < 12 → ¬ sg 2 i = 0 → rh i = px_fo (nn i) ∧ px_pa (nn i) = true) ∧ (nq ≤ 6 ∧ ∀ i, i < 6 → (sg 5 i = 0 ↔ nq ≤ i)) ∧ (∀ n, n < nq → ∃ f j0 k0 A, QQ 2 (rh (18 + n)) f j0 k0 A ∧ rh (24 + n) = f 0 0 ∧ (rh (18 + n)).count 40 < 12) ∧ (∀ m, m < 6 → ¬ sg 6 m = 0 → ∃ w, w < 5 ∧ sg 7 m = nI w) ∧ io 17 = nI nl ∧ (∃ n, n ≤ 12 ∧ io 19 = nI n) ∧ ∀ k, sg 4 k = 0 ∨ sg 4 k = 1
theorem PI.cg {nl' : Nat} (hP : PI nn rh sg io nq nl) (hr : ∀ r, r < 12 ∨ (18 ≤ r ∧ r < 30) → rh' r = rh r) (hs : ∀ k, k ∈ [2, 4, 5, 6, 7] → sg' k = sg k) (h17 : io' 17 = nI nl') (h19 : io' 19 = io 19) : PI nn rh' sg' io' nq nl' := by
  obtain ⟨p1, p2, p3, p4, p5, p6, p7⟩ := hP
  refine ⟨fun i hi hp => ?_, ⟨p2.1, ?_⟩, fun n hn => ?_, ?_, h17, by rw [h19]; exact p6, by rw [hs 4 (by decide)]; exact p7⟩
  · rw [hs 2 (by decide)] at hp
    rw [hr i (Or.inl hi)]
    exact p1 i hi hp
  · rw [hs 5 (by decide)]
    exact p2.2
  · have := p2.1
    rw [hr (18 + n) (by omega), hr (24 + n) (by omega)]
    exact p3 n hn
  · rw [hs 6 (by decide), hs 7 (by decide)]
    exact p4
theorem PI.sc (hP : PI nn rh sg io nq nl) (s : sc rh sg io rh' sg' io') : PI nn rh' sg' io' nq nl := hP.cg (fun r hr => s.1 r (by omega) (by omega)) (fun k hk => s.2.1 k (by revert hk; revert k; decide) (by revert hk; revert k; decide)) ((s.2.2 17 (by decide) (by decide) (by decide)).trans hP.2.2.2.2.1) (s.2.2 19 (by decide) (by decide) (by decide))
/-- both states say the same -/
def IV (aC : Nat → ClassId) (h : jjHp) (ca : Nat → Nat) (y : Nat) (ad : Nat → Nat) : Prop := ∃ b0 cv cp cm nn rh sg mu io bm nq nl lp fb fq fm, RC aC h (ad 21) b0 ca cv cp cm nn rh sg mu io bm nq nl lp fb fq fm ∧ RR aC h y ad rh sg mu io ∧ RD sg cv cp cm ∧ PI nn rh sg io nq nl
theorem RR.x (hR : RR aC h y ad rh sg mu io) : RX aC h y ad rh sg mu io := ⟨rh, sg, io, hR, sc.rf⟩
theorem IV.fin (hA : jA aC) (h11 : ca 11 ≠ ad 20) (hC : RC aC h (ad 21) b0 ca cv cp cm nn rh sg mu io bm nq nl lp fb fq fm) (hR : RR aC h y ad rh0 sg0 mu0 io0) (hf : jj_fr (rr_S y ad) h h') (hX : RX aC h' y ad rh sg mu io) (hD : RD sg cv cp cm) (hP : PI nn rh sg io nq nl) : IV aC h' ca y ad := by
  obtain ⟨rh', sg', io', hR', s⟩ := hX
  have hC' := (hC.keepR hA hR h11 hf).sc hP.2.1.1 s
  refine ⟨b0, cv, cp, cm, nn, rh', sg', mu, io', bm, nq, nl, lp, fb, fq, fm, hC', hR', ?_, hP.sc s⟩
  unfold RD
  rw [s.2.1 2 (by decide) (by decide), s.2.1 6 (by decide) (by decide)]
  exact hD
/-- the class's cells, by name -/
theorem cq_c {k : Nat} (hk : k < 12) (h2 : k ≠ 2) : CQ ca cv cp cm b0 sg (ca k) := Or.inl ⟨k, hk, h2, rfl⟩
theorem cq_l : ∀ c, c ∈ lg_S (ca 6) (fun w => ca (7 + w)) → CQ ca cv cp cm b0 sg c := by
  intro c hc
  unfold lg_S at hc
  simp only [List.mem_cons, List.not_mem_nil, or_false] at hc
  rcases hc with rfl | rfl | rfl | rfl | rfl
  · exact cq_c (by decide) (by decide)
  · exact cq_c (k := 7) (by decide) (by decide)
  · exact cq_c (k := 8) (by decide) (by decide)
  · exact cq_c (k := 9) (by decide) (by decide)
  · exact cq_c (k := 10) (by decide) (by decide)
theorem RR.keepC {S : List Nat} (hA : jA aC) (hC : RC aC h r0 b0 ca cv cp cm nn rh sg mu io bm nq nl lp fb fq fm) (hR : RR aC h y ad rh0 sg0 mu0 io0) (h11 : ca 11 ≠ ad 20) (hf : jj_fr S h h') (hS : ∀ c, c ∈ S → CQ ca cv cp cm b0 sg c) : RR aC h' y ad rh0 sg0 mu0 io0 := hR.keepS hf (fun c hc => CQ.off hA hC hR h11 (hS c hc))
end IVA
