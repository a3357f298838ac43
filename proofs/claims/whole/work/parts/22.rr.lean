/-! The reference's whole state: texts rho, arrays sg, marks mu, numbers io -/
abbrev rr_fs (ad : Nat → Nat) (io : Nat → Int32) : List Value := [.ref (ad 0), .ref (ad 1), .ref (ad 2), .ref (ad 3), .ref (ad 4), .ref (ad 5), .ref (ad 6), .ref (ad 7), .ref (ad 8), .ref (ad 9), .ref (ad 10), .ref (ad 11), .ref (ad 12), .ref (ad 13), .ref (ad 14), .int (io 15), .int (io 16), .int (io 17), .ref (ad 18), .int (io 19), .ref (ad 20), .ref (ad 21), .int (io 22), .ref (ad 23), .ref (ad 24), .ref (ad 25), .ref (ad 26), .int (io 27), .int (io 28)]
abbrev rr_ks : List Nat := [0, 1, 2, 3, 4, 5, 6, 7, 8, 9, 11, 12, 13, 14, 18, 20, 21, 23, 24, 25, 26]
abbrev rr_all : List Nat := 10 :: rr_ks
def rr_len : Nat → Nat
  | 0 => 2040 | 1 => 34 | 2 => 12 | 3 => 60 | 4 => 60 | 18 => 64 | 20 => 12 | 21 => 26 | 23 => 12 | 24 => 12 | 25 => 12 | 26 => 12
  | _ => 6
/-- which array class: 0 int, 1 boolean, 2 char -/
def rr_ty : Nat → Nat
  | 0 => 2 | 2 => 1 | 4 => 1 | 5 => 1 | 11 => 1 | 12 => 1 | 14 => 1 | 23 => 1 | 24 => 1 | 25 => 1 | 26 => 1
  | _ => 0
def rr_ok (aC : Nat → ClassId) (h : jjHp) (y : Nat) (ad : Nat → Nat) (sg : Nat → Nat → Int32) (mu : Nat → Int64) (io : Nat → Int32) : Prop :=
  h y = some (.inr (9, rr_fs ad io)) ∧ (∀ k, k ∈ rr_ks → h (ad k) = some (.inl (aC (rr_ty k), rr_len k, .inl (sg k)))) ∧ h (ad 10) = some (.inl (aC 3, 6, .inr (.inl mu))) ∧ ∀ j k, j ∈ rr_all → k ∈ rr_all → ad j = ad k → j = k
/-- all its cells -/
def rr_S (y : Nat) (ad : Nat → Nat) : List Nat := y :: rr_all.map ad
theorem rr_S_y {y : Nat} {ad : Nat → Nat} : y ∈ rr_S y ad := List.mem_cons_self
theorem rr_S_k {y k : Nat} {ad : Nat → Nat} (hk : k ∈ rr_all) : ad k ∈ rr_S y ad := List.mem_cons_of_mem _ (List.mem_map_of_mem hk)
section RRO
variable {aC : Nat → ClassId} {h : jjHp} {y : Nat} {ad : Nat → Nat} {sg : Nat → Nat → Int32} {mu : Nat → Int64} {io : Nat → Int32}
theorem rr_ok.ne (hR : rr_ok aC h y ad sg mu io) {k : Nat} (hk : k ∈ rr_all) : ad k ≠ y := by
  obtain ⟨hy, hc, hm, -⟩ := hR
  rcases List.mem_cons.mp hk with rfl | hk
  · exact kx_ne (m := 0) (aC := aC) hy hm
  · exact kx_ne (m := 0) (aC := aC) hy (hc k hk)
/-- an array gets other contents -/
theorem rr_ok.set (hR : rr_ok aC h y ad sg mu io) {k : Nat} (hk : k ∈ rr_ks) (f : Nat → Int32) : rr_ok aC (jj_up h (ad k) (.inl (aC (rr_ty k), rr_len k, .inl f))) y ad (va_up sg k f) mu io := by
  have hka : k ∈ rr_all := List.mem_cons_of_mem _ hk
  have hny := hR.ne hka
  obtain ⟨hy, hc, hm, hi⟩ := hR
  refine ⟨(jj_up_n (Ne.symm hny)).trans hy, fun j hj => ?_, ?_, hi⟩
  · by_cases hjk : j = k
    · subst hjk
      rw [jj_up_s]
      simp [va_up]
    · rw [jj_up_n (fun q => hjk (hi j k (List.mem_cons_of_mem _ hj) hka q)), hc j hj]
      simp [va_up, hjk]
  · rw [jj_up_n (fun q => ?_)]
    · exact hm
    · have := hi 10 k List.mem_cons_self hka q
      subst this
      revert hk
      decide
theorem rr_ok.mark (hR : rr_ok aC h y ad sg mu io) (f : Nat → Int64) : rr_ok aC (jj_up h (ad 10) (.inl (aC 3, 6, .inr (.inl f)))) y ad sg f io := by
  have hny := hR.ne (k := 10) List.mem_cons_self
  obtain ⟨hy, hc, hm, hi⟩ := hR
  refine ⟨(jj_up_n (Ne.symm hny)).trans hy, fun j hj => ?_, jj_up_s, hi⟩
  rw [jj_up_n (fun q => ?_)]
  · exact hc j hj
  · have := hi j 10 (List.mem_cons_of_mem _ hj) List.mem_cons_self q
    subst this
    revert hj
    decide
/-- a number gets another value -/
theorem rr_ok.put (hR : rr_ok aC h y ad sg mu io) {io' : Nat → Int32} {fs : List Value} (hfs : fs = rr_fs ad io') : rr_ok aC (jj_up h y (.inr (9, fs))) y ad sg mu io' := by
  have hn : ∀ k, k ∈ rr_all → ad k ≠ y := fun k hk => hR.ne hk
  obtain ⟨hy, hc, hm, hi⟩ := hR
  subst hfs
  exact ⟨jj_up_s, fun j hj => (jj_up_n (hn j (List.mem_cons_of_mem _ hj))).trans (hc j hj), (jj_up_n (hn 10 List.mem_cons_self)).trans hm, hi⟩
end RRO
/-- the state with its texts -/
def RR (aC : Nat → ClassId) (h : jjHp) (y : Nat) (ad : Nat → Nat) (rh : Nat → List Nat) (sg : Nat → Nat → Int32) (mu : Nat → Int64) (io : Nat → Int32) : Prop := ∃ L S, rr_ok aC h y ad (va_up (va_up sg 0 L) 1 S) mu io ∧ jr_R L S rh
section RRT
variable {aC : Nat → ClassId} {h : jjHp} {y : Nat} {ad : Nat → Nat} {rh : Nat → List Nat} {sg : Nat → Nat → Int32} {mu : Nat → Int64} {io : Nat → Int32}
theorem RR.oy (hR : RR aC h y ad rh sg mu io) : h y = some (.inr (9, rr_fs ad io)) := by
  obtain ⟨L, S, h1, -⟩ := hR
  exact h1.1
/-- an array's cell -/
theorem RR.oc (hR : RR aC h y ad rh sg mu io) {k : Nat} (hk : k ∈ rr_ks) (h0 : k ≠ 0) (h1 : k ≠ 1) : h (ad k) = some (.inl (aC (rr_ty k), rr_len k, .inl (sg k))) := by
  obtain ⟨L, S, hr, -⟩ := hR
  have := hr.2.1 k hk
  simp only [va_up, if_neg h0, if_neg h1] at this
  exact this
theorem RR.om (hR : RR aC h y ad rh sg mu io) : h (ad 10) = some (.inl (aC 3, 6, .inr (.inl mu))) := by
  obtain ⟨L, S, hr, -⟩ := hR
  exact hr.2.2.1
theorem RR.oT (hR : RR aC h y ad rh sg mu io) : jr_T aC h y (ad 0) (ad 1) (rr_fs ad io) rh := by
  obtain ⟨L, S, hr, ht⟩ := hR
  refine ⟨hr.1, rfl, rfl, fun q => ?_, L, S, ?_, ?_, ht⟩
  · have := hr.2.2.2 0 1 (by decide) (by decide) q
    omega
  · have := hr.2.1 0 (by decide)
    simp [va_up] at this
    exact this
  · have := hr.2.1 1 (by decide)
    simp [va_up] at this
    exact this
theorem RR.len (hR : RR aC h y ad rh sg mu io) {r : Nat} (hr : r < 34) : (rh r).length ≤ 60 ∧ ∀ i, (rh r).getD i 0 < 128 := jr_T_len hR.oT hr
/-- behind a change of the texts alone -/
theorem RR.text (hR : RR aC h y ad rh sg mu io) {h' : jjHp} {rh' : Nat → List Nat} (hT : jr_T aC h' y (ad 0) (ad 1) (rr_fs ad io) rh') (hf : jj_fr [ad 0, ad 1] h h') : RR aC h' y ad rh' sg mu io := by
  obtain ⟨L, S, ⟨hy, hc, hm, hi⟩, -⟩ := hR
  obtain ⟨hy', f0, f1, hne, L', S', g0, g1, hR'⟩ := hT
  refine ⟨L', S', ⟨hy', fun k hk => ?_, ?_, hi⟩, hR'⟩
  · by_cases h0 : k = 0
    · subst h0
      rw [g0]
      simp [va_up, rr_ty, rr_len]
    · by_cases h1 : k = 1
      · subst h1
        rw [g1]
        simp [va_up, rr_ty, rr_len]
      · have hk' : k ∈ rr_all := List.mem_cons_of_mem _ hk
        have := hf (ad k) _ (fun q => ?_) (hc k hk)
        · rw [this]
          simp [va_up, h0, h1]
        · rcases List.mem_cons.mp q with q | q
          · exact h0 (hi k 0 hk' (by decide) q)
          · exact h1 (hi k 1 hk' (by decide) (List.mem_singleton.mp q))
  · refine hf (ad 10) _ (fun q => ?_) hm
    rcases List.mem_cons.mp q with q | q
    · have := hi 10 0 (by decide) (by decide) q
      omega
    · have := hi 10 1 (by decide) (by decide) (List.mem_singleton.mp q)
      omega
theorem RR.set (hR : RR aC h y ad rh sg mu io) {k : Nat} (hk : k ∈ rr_ks) (h0 : k ≠ 0) (h1 : k ≠ 1) (f : Nat → Int32) : RR aC (jj_up h (ad k) (.inl (aC (rr_ty k), rr_len k, .inl f))) y ad rh (va_up sg k f) mu io := by
  obtain ⟨L, S, hr, ht⟩ := hR
  refine ⟨L, S, ?_, ht⟩
  have := hr.set hk f
  have e1 : va_up (va_up (va_up sg 0 L) 1 S) k f = va_up (va_up (va_up sg k f) 0 L) 1 S := by
    funext j
    simp only [va_up]
    by_cases q1 : j = k
    · subst q1
      simp [h0, h1]
    · simp [q1]
  rw [e1] at this
  exact this
theorem RR.mark (hR : RR aC h y ad rh sg mu io) (f : Nat → Int64) : RR aC (jj_up h (ad 10) (.inl (aC 3, 6, .inr (.inl f)))) y ad rh sg f io := by
  obtain ⟨L, S, hr, ht⟩ := hR
  exact ⟨L, S, hr.mark f, ht⟩
theorem RR.put (hR : RR aC h y ad rh sg mu io) {io' : Nat → Int32} {fs : List Value} (hfs : fs = rr_fs ad io') : RR aC (jj_up h y (.inr (9, fs))) y ad rh sg mu io' := by
  obtain ⟨L, S, hr, ht⟩ := hR
  exact ⟨L, S, hr.put hfs, ht⟩
theorem rr_fr01 {h h' : jjHp} (hf : jj_fr [ad 0, ad 1] h h') : jj_fr (rr_S y ad) h h' := hf.mono (fun a ha => by
  rcases List.mem_cons.mp ha with rfl | ha
  · exact rr_S_k (by decide)
  · rw [List.mem_singleton.mp ha]
    exact rr_S_k (by decide))
theorem rr_up_same {k : Nat} : va_up sg k (sg k) = sg := by
  funext j
  unfold va_up
  split
  next q => rw [q]
  next => rfl
end RRT
section RRM
variable {l : Launch} {D : va_G} {aC : Nat → ClassId} {base : Nat} {h : jjHp} {y : Nat} {ad : Nat → Nat} {rh : Nat → List Nat} {sg : Nat → Nat → Int32} {mu : Nat → Int64} {io : Nat → Int32}
theorem rr_get1 {r : Nat} {x : Int32} (hR : RR aC h y ad rh sg mu io) (hr : r < 34) : jj_Ct l D aC base yn_MO_get1 yb_MO_get1 3 (some .char) 0 0 0 [.ref y, .int (nI r), .int x] h (fun q h' => q = some (.int (nI (jr_g (rh r) x))) ∧ h' = h) := mo_get1 hR.oT hr
end RRM
