/-! The class's state, said by the reference's: its parts, and what leaves them as they are -/
def jA (aC : Nat → ClassId) : Prop := ∀ i j, i < 8 → j < 8 → aC i = aC j → i = j
/-- a cell that is no text, pattern, bean, query -/
def bz (aC : Nat → ClassId) (r0 c : Nat) (e : va_E) : Prop := (∀ ci fs, e = .inr (ci, fs) → ci ≠ 1 ∧ ci ≠ 3 ∧ ci ≠ 4 ∧ ci ≠ 10) ∧ ∀ k n d, e = .inl (k, n, d) → k ≠ aC 4 ∧ (n = 26 → c = r0)
/-- cells that hold no text, pattern, bean, query, but for the buffer's letters b0 -/
def SF (aC : Nat → ClassId) (h : jjHp) (r0 b0 : Nat) (S : List Nat) : Prop := (∃ n d, h b0 = some (.inl (aC 4, n, d))) ∧ ∀ c, c ∈ S → c = b0 ∨ ∀ e, h c = some e → bz aC r0 c e
section SFS
variable {aC : Nat → ClassId} {h h' : jjHp} {r0 b0 : Nat} {S : List Nat}
theorem SF.obj (hS : SF aC h r0 b0 S) {c ci : Nat} {fs : List Value} (hc : h c = some (.inr (ci, fs))) (hi : ci = 1 ∨ ci = 3 ∨ ci = 4 ∨ ci = 10) : c ∉ S := by
  obtain ⟨⟨n, d, hb⟩, hS⟩ := hS
  intro hm
  rcases hS c hm with q | q
  · rw [q, hb] at hc
    cases hc
  · have := (q _ hc).1 ci fs rfl
    omega
theorem SF.bytes (hS : SF aC h r0 b0 S) {c n : Nat} {d} (hc : h c = some (.inl (aC 4, n, d))) (hb : c ≠ b0) : c ∉ S := by
  obtain ⟨-, hS⟩ := hS
  intro hm
  rcases hS c hm with q | q
  · exact hb q
  · exact ((q _ hc).2 _ _ _ rfl).1 rfl
theorem SF.keys (hS : SF aC h r0 b0 S) (hA : jA aC) {c : Nat} {d} (hc : h c = some (.inl (aC 0, 26, d))) (hr : c ≠ r0) : c ∉ S := by
  obtain ⟨⟨n, d', hb⟩, hS⟩ := hS
  intro hm
  rcases hS c hm with q | q
  · rw [q, hb] at hc
    have e := congrArg (fun z => match z with | some (.inl (k, _)) => some k | _ => none) hc
    have e : some (aC 4) = some (aC 0) := e
    have := hA 4 0 (by decide) (by decide) (Option.some.inj e)
    omega
  · exact hr (((q _ hc).2 _ _ _ rfl).2 rfl)
theorem kx_ST.sf {a b : Nat} {t : List Nat} (hs : kx_ST aC h a b t) (hb : b ≠ b0) (hS : SF aC h r0 b0 S) (hf : jj_fr S h h') : kx_ST aC h' a b t := by
  have hs' := hs
  obtain ⟨h1, h2, f, ho, hv, -⟩ := hs
  exact hs'.keep hf (hS.obj ho (by omega)) (hS.bytes hv hb)
theorem pt_okb.sf {pt : Nat} {t : List Nat} (hp : pt_okb aC h pt t b0 r0) (hA : jA aC) (hS : SF aC h r0 b0 S) (hf : jj_fr S h h') : pt_okb aC h' pt t b0 r0 := by
  obtain ⟨tx, txb, st, en, Sf, Ef, fm, fmb, ⟨p1, p2, p3, p4, p5⟩, q2, q3, n1, n2, n3, n4⟩ := hp
  exact ⟨tx, txb, st, en, Sf, Ef, fm, fmb, ⟨hf _ _ (hS.obj p1 (by omega)) p1, p2.sf n1 hS hf, hf _ _ (hS.keys hA p3 n3) p3, hf _ _ (hS.keys hA p4 n4) p4, p5⟩, q2, q3.sf n2 hS hf, n1, n2, n3, n4⟩
theorem pt_okb.re {pt b1 : Nat} {t : List Nat} (hp : pt_okb aC h pt t b0 r0) (hb : h b1 = none) : pt_okb aC h pt t b1 r0 := by
  obtain ⟨tx, txb, st, en, Sf, Ef, fm, fmb, p1, q2, q3, n1, n2, n3, n4⟩ := hp
  have k1 : ∃ e, h txb = some e := by
    obtain ⟨-, ⟨_, _, _, -, k, -⟩, -⟩ := p1
    exact ⟨_, k⟩
  have k2 : ∃ e, h fmb = some e := by
    obtain ⟨_, _, _, -, k, -⟩ := q3
    exact ⟨_, k⟩
  obtain ⟨e1, k1⟩ := k1
  obtain ⟨e2, k2⟩ := k2
  exact ⟨tx, txb, st, en, Sf, Ef, fm, fmb, p1, q2, q3, (fun q => by rw [q, hb] at k1; cases k1), (fun q => by rw [q, hb] at k2; cases k2), n3, n4⟩
end SFS
abbrev bs_fs (ca : Nat → Nat) (nq : Nat) (ss : Int32) (lp : Nat) : List Value := [.ref (ca 1), .ref (ca 3), .ref (ca 4), .int (nI nq), .ref (ca 5), .ref (ca 6), .ref (ca 11), .int ss, .ref lp]
abbrev rfA (cls : ClassId) (n : Nat) (f : Nat → Option Nat) : va_E := .inl (cls, n, .inr (.inr (.inr (.inr f))))
/-- bean i -/
def RB1 (aC : Nat → ClassId) (h : jjHp) (b0 r0 : Nat) (cv cp : Nat → Nat) (nn : Nat → List Nat) (sg : Nat → Nat → Int32) (i be : Nat) : Prop := ∃ pt V B, h be = some (.inr (1, [.ref pt, .ref (cv i), .ref (cp i)])) ∧ pt_okb aC h pt (nn i) b0 r0 ∧ h (cv i) = some (.inl (aC 0, 5, .inl V)) ∧ h (cp i) = some (.inl (aC 1, 5, .inl B)) ∧ ∀ a, a < 5 → V a = sg 3 (5 * i + a) ∧ B a = sg 4 (5 * i + a)
def RBs (aC : Nat → ClassId) (h : jjHp) (b0 r0 : Nat) (cv cp : Nat → Nat) (nn : Nat → List Nat) (sg : Nat → Nat → Int32) (fb : Nat → Option Nat) : Prop := ∀ i, i < 12 → (sg 2 i = 0 ∧ fb i = none) ∨ (¬ sg 2 i = 0 ∧ ∃ be, fb i = some be ∧ RB1 aC h b0 r0 cv cp nn sg i be)
def RQs (aC : Nat → ClassId) (h : jjHp) (b0 : Nat) (rh : Nat → List Nat) (nq : Nat) (fq : Nat → Option Nat) : Prop := ∀ i, i < nq → ∃ qo tx txb, fq i = some qo ∧ h qo = some (.inr (4, [.ref tx])) ∧ kx_ST aC h tx txb (rh (24 + i)) ∧ txb ≠ b0
/-- monitor i -/
def RM1 (aC : Nat → ClassId) (h : jjHp) (b0 : Nat) (cm : Nat → Nat) (rh : Nat → List Nat) (sg : Nat → Nat → Int32) (mu : Nat → Int64) (i : Nat) : Prop := ∃ nm nmb, kx_ST aC h nm nmb (rh (12 + i)) ∧ nmb ≠ b0 ∧ ((sg 6 i = 1 ∧ ∃ T, h (cm i) = some (.inr (7, ct_fs (sg 8 i) (sg 9 i) (mu i) (sg 11 i) (sg 12 i) T nm (sg 7 i) (sg 14 i))) ∧ (¬ sg 12 i = 0 → T = sg 13 i)) ∨ (sg 6 i = 2 ∧ ∃ sd, h (cm i) = some (.inr (8, ga_fs (sg 8 i) (sg 9 i) sd nm (sg 7 i) (sg 14 i))) ∧ mu i = sd.toInt64))
def RMs (aC : Nat → ClassId) (h : jjHp) (b0 : Nat) (cm : Nat → Nat) (rh : Nat → List Nat) (sg : Nat → Nat → Int32) (mu : Nat → Int64) (fm : Nat → Option Nat) : Prop := ∀ i, i < 6 → (sg 6 i = 0 ∧ fm i = none) ∨ (¬ sg 6 i = 0 ∧ fm i = some (cm i) ∧ RM1 aC h b0 cm rh sg mu i)
def RP (aC : Nat → ClassId) (h : jjHp) (b0 : Nat) (rh : Nat → List Nat) (lp : Nat) : Prop := (rh 30 = [] ∧ lp = aC 100) ∨ (rh 30 ≠ [] ∧ ∃ lpb, kx_ST aC h lp lpb (rh 30) ∧ lpb ≠ b0)
/-- the class's state -/
def RC (aC : Nat → ClassId) (h : jjHp) (r0 b0 : Nat) (ca cv cp cm : Nat → Nat) (nn : Nat → List Nat) (rh : Nat → List Nat) (sg : Nat → Nat → Int32) (mu : Nat → Int64) (io : Nat → Int32) (bm nq nl lp : Nat) (fb fq fm : Nat → Option Nat) : Prop :=
  h (ca 0) = some (.inr (0, bs_fs ca nq (io 19) lp)) ∧ kx_SB aC h (ca 1) b0 bm (rh 33) ∧ h (ca 3) = some (rfA (aC 5) 12 fb) ∧ RBs aC h b0 r0 cv cp nn sg fb ∧ h (ca 4) = some (rfA (aC 6) 6 fq) ∧ RQs aC h b0 rh nq fq ∧ h (ca 5) = some (rfA (aC 7) 6 fm) ∧ RMs aC h b0 cm rh sg mu fm ∧ LGR aC h (ca 6) (fun w => ca (7 + w)) (sg 18) nl (io 15) (io 16) ∧ h (ca 11) = some (.inl (aC 0, 12, .inl (sg 20))) ∧ RP aC h b0 rh lp
section RKS
variable {aC : Nat → ClassId} {h h' : jjHp} {r0 b0 : Nat} {S : List Nat} {cv cp cm : Nat → Nat} {nn rh : Nat → List Nat} {sg : Nat → Nat → Int32} {mu : Nat → Int64} {fb fq fm : Nat → Option Nat}
theorem RB1.sf {i be : Nat} (hb : RB1 aC h b0 r0 cv cp nn sg i be) (hA : jA aC) (hS : SF aC h r0 b0 S) (hf : jj_fr S h h') (h1 : cv i ∉ S) (h2 : cp i ∉ S) : RB1 aC h' b0 r0 cv cp nn sg i be := by
  obtain ⟨pt, V, B, a1, a2, a3, a4, a5⟩ := hb
  exact ⟨pt, V, B, hf _ _ (hS.obj a1 (by omega)) a1, a2.sf hA hS hf, hf _ _ h1 a3, hf _ _ h2 a4, a5⟩
theorem RBs.sf (hb : RBs aC h b0 r0 cv cp nn sg fb) (hA : jA aC) (hS : SF aC h r0 b0 S) (hf : jj_fr S h h') (h1 : ∀ i, i < 12 → ¬ sg 2 i = 0 → cv i ∉ S ∧ cp i ∉ S) : RBs aC h' b0 r0 cv cp nn sg fb := by
  intro i hi
  rcases hb i hi with q | ⟨q, be, q1, q2⟩
  · exact Or.inl q
  · exact Or.inr ⟨q, be, q1, q2.sf hA hS hf (h1 i hi q).1 (h1 i hi q).2⟩
theorem RQs.sf {nq : Nat} (hq : RQs aC h b0 rh nq fq) (hS : SF aC h r0 b0 S) (hf : jj_fr S h h') : RQs aC h' b0 rh nq fq := by
  intro i hi
  obtain ⟨qo, tx, txb, a1, a2, a3, a4⟩ := hq i hi
  exact ⟨qo, tx, txb, a1, hf _ _ (hS.obj a2 (by omega)) a2, a3.sf a4 hS hf, a4⟩
theorem RM1.sf {i : Nat} (hm : RM1 aC h b0 cm rh sg mu i) (hS : SF aC h r0 b0 S) (hf : jj_fr S h h') (h1 : cm i ∉ S) : RM1 aC h' b0 cm rh sg mu i := by
  obtain ⟨nm, nmb, a1, a2, a3⟩ := hm
  refine ⟨nm, nmb, a1.sf a2 hS hf, a2, ?_⟩
  rcases a3 with ⟨b1, T, b2, b3⟩ | ⟨b1, sd, b2, b3⟩
  · exact Or.inl ⟨b1, T, hf _ _ h1 b2, b3⟩
  · exact Or.inr ⟨b1, sd, hf _ _ h1 b2, b3⟩
theorem RMs.sf (hm : RMs aC h b0 cm rh sg mu fm) (hS : SF aC h r0 b0 S) (hf : jj_fr S h h') (h1 : ∀ i, i < 6 → ¬ sg 6 i = 0 → cm i ∉ S) : RMs aC h' b0 cm rh sg mu fm := by
  intro i hi
  rcases hm i hi with q | ⟨q, q1, q2⟩
  · exact Or.inl q
  · exact Or.inr ⟨q, q1, q2.sf hS hf (h1 i hi q)⟩
theorem RP.sf {lp : Nat} (hp : RP aC h b0 rh lp) (hS : SF aC h r0 b0 S) (hf : jj_fr S h h') : RP aC h' b0 rh lp := by
  rcases hp with q | ⟨q, lpb, q1, q2⟩
  · exact Or.inl q
  · exact Or.inr ⟨q, lpb, q1.sf q2 hS hf, q2⟩
theorem LGR.sf {lg : Nat} {la : Nat → Nat} {log : Nat → Int32} {n : Nat} {g li : Int32} (hl : LGR aC h lg la log n g li) (hf : jj_fr S h h') (h0 : lg ∉ S) (h1 : ∀ w, w < 4 → la w ∉ S) : LGR aC h' lg la log n g li := by
  obtain ⟨nx, F, a1, a2, a3, a4, a5⟩ := hl
  exact ⟨nx, F, a1, a2, hf _ _ h0 a3, fun w hw => hf _ _ (h1 w hw) (a4 w hw), a5⟩
theorem kx_ST.re {a b b1 : Nat} {t : List Nat} (hs : kx_ST aC h a b t) (hb : h b1 = none) : b ≠ b1 := by
  obtain ⟨_, _, _, -, k, -⟩ := hs
  exact fun q => by rw [q, hb] at k; cases k
end RKS
/-- with a new place for the buffer's letters -/
theorem RC.reb {aC : Nat → ClassId} {h : jjHp} {r0 b1 : Nat} {cv cp cm : Nat → Nat} {nn rh : Nat → List Nat} {sg : Nat → Nat → Int32} {mu : Nat → Int64} {fb fq fm : Nat → Option Nat} {b0 nq lp : Nat} (hb : h b1 = none) (h1 : RBs aC h b0 r0 cv cp nn sg fb) (h2 : RQs aC h b0 rh nq fq) (h3 : RMs aC h b0 cm rh sg mu fm) (h4 : RP aC h b0 rh lp) : RBs aC h b1 r0 cv cp nn sg fb ∧ RQs aC h b1 rh nq fq ∧ RMs aC h b1 cm rh sg mu fm ∧ RP aC h b1 rh lp := by
  refine ⟨fun i hi => ?_, fun i hi => ?_, fun i hi => ?_, ?_⟩
  · rcases h1 i hi with q | ⟨q, be, q1, pt, V, B, a1, a2, a3⟩
    · exact Or.inl q
    · exact Or.inr ⟨q, be, q1, pt, V, B, a1, a2.re hb, a3⟩
  · obtain ⟨qo, tx, txb, a1, a2, a3, a4⟩ := h2 i hi
    exact ⟨qo, tx, txb, a1, a2, a3, a3.re hb⟩
  · rcases h3 i hi with q | ⟨q, q1, nm, nmb, a1, a2, a3⟩
    · exact Or.inl q
    · exact Or.inr ⟨q, q1, nm, nmb, a1, a1.re hb, a3⟩
  · rcases h4 with q | ⟨q, lpb, q1, q2⟩
    · exact Or.inl q
    · exact Or.inr ⟨q, lpb, q1, q1.re hb⟩
