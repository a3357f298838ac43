/-! The reference: takeName, find, unregister, register; the state without what is only scratch -/
def sc (rh : Nat → List Nat) (sg : Nat → Nat → Int32) (io : Nat → Int32) (rh' : Nat → List Nat) (sg' : Nat → Nat → Int32) (io' : Nat → Int32) : Prop := (∀ r, r ≠ 31 → r ≠ 32 → rh' r = rh r) ∧ (∀ k, k ≠ 21 → k < 23 ∨ 26 < k → sg' k = sg k) ∧ ∀ k, k ≠ 22 → k ≠ 27 → k ≠ 28 → io' k = io k
section SC
variable {rh rh' : Nat → List Nat} {sg sg' : Nat → Nat → Int32} {io io' : Nat → Int32}
theorem sc.rf : sc rh sg io rh sg io := ⟨fun _ _ _ => rfl, fun _ _ _ => rfl, fun _ _ _ _ => rfl⟩
theorem sc.tr {rh2 : Nat → List Nat} {sg2 : Nat → Nat → Int32} {io2 : Nat → Int32} (a : sc rh sg io rh' sg' io') (b : sc rh' sg' io' rh2 sg2 io2) : sc rh sg io rh2 sg2 io2 := ⟨fun r h1 h2 => (b.1 r h1 h2).trans (a.1 r h1 h2), fun k h1 h2 => (b.2.1 k h1 h2).trans (a.2.1 k h1 h2), fun k h1 h2 h3 => (b.2.2 k h1 h2 h3).trans (a.2.2 k h1 h2 h3)⟩
theorem sc.up (s : sc rh sg io rh' sg' io') (r : Nat) (t : List Nat) : sc (jr_up rh r t) sg io (jr_up rh' r t) sg' io' := ⟨fun q h1 h2 => by
  unfold jr_up
  split
  · rfl
  · exact s.1 q h1 h2, s.2.1, s.2.2⟩
theorem sc.set (s : sc rh sg io rh' sg' io') (k : Nat) (f : Nat → Int32) : sc rh (va_up sg k f) io rh' (va_up sg' k f) io' := ⟨s.1, fun q h1 h2 => by
  unfold va_up
  split
  · rfl
  · exact s.2.1 q h1 h2, s.2.2⟩
theorem sc.put (s : sc rh sg io rh' sg' io') (k : Nat) (v : Int32) : sc rh sg (upd io k v) rh' sg' (upd io' k v) := ⟨s.1, s.2.1, fun q h1 h2 h3 => by
  unfold upd
  split
  · rfl
  · exact s.2.2 q h1 h2 h3⟩
theorem sc.rs (s : sc rh sg io rh' sg' io') {r : Nat} (hr : r = 31 ∨ r = 32) (t : List Nat) : sc rh sg io (jr_up rh' r t) sg' io' := ⟨fun q h1 h2 => by
  rw [jr_up_n (by omega)]
  exact s.1 q h1 h2, s.2.1, s.2.2⟩
theorem sc.ss (s : sc rh sg io rh' sg' io') {k : Nat} (hk : k = 21 ∨ (23 ≤ k ∧ k ≤ 26)) (f : Nat → Int32) : sc rh sg io rh' (va_up sg' k f) io' := ⟨s.1, fun q h1 h2 => by
  unfold va_up
  rw [if_neg (by omega)]
  exact s.2.1 q h1 h2, s.2.2⟩
theorem sc.is (s : sc rh sg io rh' sg' io') {k : Nat} (hk : k = 22 ∨ k = 27 ∨ k = 28) (v : Int32) : sc rh sg io rh' sg' (upd io' k v) := ⟨s.1, s.2.1, fun q h1 h2 h3 => by
  unfold upd
  rw [if_neg (by omega)]
  exact s.2.2 q h1 h2 h3⟩
end SC
def RX (aC : Nat → ClassId) (h : jjHp) (y : Nat) (ad : Nat → Nat) (rh : Nat → List Nat) (sg : Nat → Nat → Int32) (mu : Nat → Int64) (io : Nat → Int32) : Prop := ∃ rh' sg' io', RR aC h y ad rh' sg' mu io' ∧ sc rh sg io rh' sg' io'
theorem px_bw_lt {th : Nat → Int32} {rh : Nat → List Nat} {t : List Nat} : ∀ (k j : Nat) {b : Nat}, px_bw th rh t k j = some b → j ≤ b ∧ b < j + k ∧ ¬ th b = 0 ∧ rh b = t
  | 0, _, _, h => by cases h
  | k + 1, j, b, h => by
    unfold px_bw at h
    by_cases hc : ¬ th j = 0 ∧ rh j = t
    · rw [if_pos hc] at h
      cases h
      exact ⟨Nat.le_refl _, by omega, hc⟩
    · rw [if_neg hc] at h
      obtain ⟨a, b, c⟩ := px_bw_lt k (j + 1) h
      exact ⟨by omega, by omega, c⟩
theorem px_bw_cg {th : Nat → Int32} {rh rh' : Nat → List Nat} {t : List Nat} : ∀ (k j : Nat), (∀ i, i < j + k → rh' i = rh i) → px_bw th rh' t k j = px_bw th rh t k j
  | 0, _, _ => rfl
  | k + 1, j, h => by
    unfold px_bw
    rw [h j (by omega), px_bw_cg k (j + 1) (fun i hi => h i (by omega))]
def px_free (th : Nat → Int32) : Nat → Nat → Option Nat
  | 0, _ => none
  | k + 1, j => if th j = 0 then some j else px_free th k (j + 1)
theorem px_free_lt {th : Nat → Int32} : ∀ (k j : Nat) {b : Nat}, px_free th k j = some b → j ≤ b ∧ b < j + k ∧ th b = 0
  | 0, _, _, h => by cases h
  | k + 1, j, b, h => by
    unfold px_free at h
    by_cases hc : th j = 0
    · rw [if_pos hc] at h
      cases h
      exact ⟨Nat.le_refl _, by omega, hc⟩
    · rw [if_neg hc] at h
      obtain ⟨a, b, c⟩ := px_free_lt k (j + 1) h
      exact ⟨by omega, by omega, c⟩
/-- the bean that the text names -/
def px_who (th : Nat → Int32) (rh : Nat → List Nat) (t : List Nat) : Option Nat := if px_rd t false = true then px_bw th rh (px_fo t) 12 0 else none
theorem px_who_lt {th : Nat → Int32} {rh : Nat → List Nat} {t : List Nat} {b : Nat} (h : px_who th rh t = some b) : b < 12 ∧ ¬ th b = 0 ∧ px_rd t false = true ∧ rh b = px_fo t := by
  unfold px_who at h
  by_cases hr : px_rd t false = true
  · rw [if_pos hr] at h
    obtain ⟨a, b, c, d⟩ := px_bw_lt 12 0 h
    exact ⟨by omega, c, hr, d⟩
  · rw [if_neg hr] at h
    cases h
/-- what find answers -/
def px_fd (th : Nat → Int32) (rh : Nat → List Nat) (t : List Nat) : Int32 := match px_who th rh t with
  | some b => nI b
  | none => if px_rd t false = true then -2 else -1
def gv_b (io : Nat → Int32) (k : Int32) : Bool := !((io 16 >>> (k &&& 31)) &&& 1 == 0)
theorem gv_b_i {io : Nat → Int32} {k : Int32} : gv_b io k = true ↔ gv_on io k := by
  unfold gv_b gv_on
  simp
def gv_sg (sg : Nat → Nat → Int32) (io : Nat → Int32) (k s v : Int32) : Nat → Nat → Int32 := if gv_b io k = true then va_up sg 18 (gv_log (sg 18) (io 15 + 1) k s v) else sg
def gv_io (io : Nat → Int32) (k : Int32) : Nat → Int32 := if gv_b io k = true then upd (upd io 15 (io 15 + 1)) 17 (if io 17 < 16 then io 17 + 1 else 16) else upd io 15 (io 15 + 1)
theorem sc.give {rh rh' : Nat → List Nat} {sg sg' : Nat → Nat → Int32} {io io' : Nat → Int32} (s : sc rh sg io rh' sg' io') (k a v : Int32) : sc rh (gv_sg sg io k a v) (gv_io io k) rh' (gv_sg sg' io' k a v) (gv_io io' k) := by
  have e16 := s.2.2 16 (by decide) (by decide) (by decide)
  have e15 := s.2.2 15 (by decide) (by decide) (by decide)
  have e17 := s.2.2 17 (by decide) (by decide) (by decide)
  have e18 := s.2.1 18 (by decide) (by decide)
  have hon : gv_b io' k = true ↔ gv_b io k = true := by unfold gv_b; rw [e16]
  unfold gv_sg gv_io
  by_cases hg : gv_b io k = true
  · rw [if_pos hg, if_pos hg, if_pos (hon.mpr hg), if_pos (hon.mpr hg), e15, e17, e18]
    exact ((s.set 18 _).put 15 _).put 17 _
  · rw [if_neg hg, if_neg hg, if_neg (fun q => hg (hon.mp q)), if_neg (fun q => hg (hon.mp q)), e15]
    exact s.put 15 _
def px_clr (f : Nat → Int32) (b n : Nat) : Nat → Int32 := fun i => if 5 * b ≤ i ∧ i < 5 * b + n then 0 else f i
theorem px_clr_s {f : Nat → Int32} {b n : Nat} : upd (px_clr f b n) (5 * b + n) 0 = px_clr f b (n + 1) := by
  funext i
  unfold upd px_clr
  by_cases h1 : i = 5 * b + n
  · rw [if_pos h1, if_pos (by omega)]
  · rw [if_neg h1]
    by_cases h2 : 5 * b ≤ i ∧ i < 5 * b + n
    · rw [if_pos h2, if_pos (by omega)]
    · rw [if_neg h2, if_neg (by omega)]
theorem px_clr_0 {f : Nat → Int32} {b : Nat} : px_clr f b 0 = f := by
  funext i
  unfold px_clr
  rw [if_neg (by omega)]
section MT
variable {l : Launch} {D : va_G} {aC : Nat → ClassId} {base : Nat} {h : jjHp} {y : Nat} {ad : Nat → Nat} {rh : Nat → List Nat} {sg : Nat → Nat → Int32} {mu : Nat → Int64} {io : Nat → Int32}
theorem rr_give {k s0 v0 : Int32} (hR : RR aC h y ad rh sg mu io) : jj_Ct l D aC base yn_MO_give yb_MO_give 5 none 0 0 0 [.ref y, .int k, .int s0, .int v0] h (fun q h' => q = none ∧ RR aC h' y ad rh (gv_sg sg io k s0 v0) mu (gv_io io k) ∧ jj_fr (rr_S y ad) h h') := by
  unfold gv_sg gv_io
  by_cases hg : gv_b io k = true
  · rw [if_pos hg, if_pos hg]
    exact rr_give_t hR (gv_b_i.mp hg)
  · rw [if_neg hg, if_neg hg]
    exact rr_give_f hR (fun q => hg (gv_b_i.mpr q))
theorem rr_takeName (hR : RR aC h y ad rh sg mu io) : jj_Ct l D aC base yn_MO_takeName yb_MO_takeName 1 (some .boolean) 4 0 0 [.ref y] h (fun q h' => q = some (.int (jb_I (px_rd (rh 33) false))) ∧ jj_fr (rr_S y ad) h h' ∧ ∃ rh' sg' io', RR aC h' y ad rh' sg' mu io' ∧ sc (jr_up rh 33 []) sg io rh' sg' io' ∧ (px_rd (rh 33) false = true → rh' 32 = px_fo (rh 33))) := by
  obtain ⟨hlen, hch⟩ := hR.len (r := 33) (by decide)
  refine jj_start (tb := tb_MO_takeName) (by decide) tg_MO_takeName (Nat.le_of_ble_eq_true rfl) ?_
  intro p e s m args below meth cc C
  refine jj_go C 1 rfl ?_
  refine jj_callV C rfl ml_MO_122 wd_980 hR.oy rfl se_MO_MO_take (mo_take hR.oT) (rest := []) rfl rfl ⟨Nat.le_of_ble_eq_true rfl, Nat.le_of_ble_eq_true rfl⟩ (Nat.le_of_ble_eq_true rfl) (Nat.le_of_ble_eq_true rfl) (Nat.le_of_ble_eq_true rfl) ?_
  rintro q9 h1 ⟨rfl, hT1, hf1⟩
  have hR1 := hR.text hT1 hf1
  have hf1 : jj_fr (rr_S y ad) h h1 := rr_fr01 hf1
  have e31 : jr_up (jr_up rh 31 (rh 33)) 33 [] 31 = rh 33 := by rw [jr_up_n (by decide), jr_up_s]
  have hs1 : sc (jr_up rh 33 []) sg io (jr_up (jr_up rh 31 (rh 33)) 33 []) sg io := (sc.rf.rs (Or.inl rfl) _).up 33 []
  generalize jr_up (jr_up rh 31 (rh 33)) 33 [] = rh1 at hR1 e31 hs1
  refine jj_go C 3 rfl ?_
  refine jj_callV C rfl ml_MO_125 wd_992 hR1.oy rfl se_MO_MO_reads (As := [.int 31, .int 0]) (rr_reads (r := 31) (w := false) hR1 (by decide)) (rest := []) rfl rfl ⟨Nat.le_of_ble_eq_true rfl, Nat.le_of_ble_eq_true rfl⟩ (Nat.le_of_ble_eq_true rfl) (Nat.le_of_ble_eq_true rfl) (Nat.le_of_ble_eq_true rfl) ?_
  rintro q9 h2 ⟨rfl, W, o, hR2, hf2, himp⟩
  rw [e31] at himp ⊢
  have hs2 : sc (jr_up rh 33 []) sg io rh1 (va_up sg 21 W) (upd io 22 o) := (hs1.ss (Or.inl rfl) W).is (Or.inl rfl) o
  rcases jb_cases (px_rd (rh 33) false) with ⟨e1, e2⟩ | ⟨e1, e2⟩
  · obtain ⟨hw, ho⟩ := himp e1
    obtain ⟨hfo, hpa⟩ := px_fo_rd e1
    rw [e2]
    refine jj_if C rfl (fun z => absurd z (by decide)) (fun _ => ?_)
    refine jj_go C 1 rfl ?_
    rw [← e31] at hw ho
    refine jj_callV C rfl ml_MO_129 wd_1013 hR2.oy rfl se_MO_MO_order (rr_order (W := W) hR2 (by simp [va_up]) hw (op := (px_ls (rh1 31) false 60 (px_col (rh1 31) + 1) (fun _ => none)).2.2) (by rw [show upd io 22 o 22 = o from if_pos rfl]; exact ho) (by rw [e31]; exact px_rd_gd e1) (by rw [e31]; exact (px_rd_i.mp e1).1) (by rw [e31, ← hfo, px_fo_len hpa]; exact hlen)) (rest := []) rfl rfl ⟨Nat.le_of_ble_eq_true rfl, Nat.le_of_ble_eq_true rfl⟩ (Nat.le_of_ble_eq_true rfl) (Nat.le_of_ble_eq_true rfl) (Nat.le_of_ble_eq_true rfl) ?_
    rintro q9 h3 ⟨rfl, hR3, hf3⟩
    rw [e31, ← hfo] at hR3
    refine jj_go C 1 rfl ?_
    exact jj_iret C rfl rfl rfl (Nat.le_of_ble_eq_true rfl) (Nat.le_of_ble_eq_true rfl) ⟨rfl, (hf1.tr hf2).tr hf3, _, _, _, hR3, hs2.rs (Or.inr rfl) _, fun _ => jr_up_s⟩
  · rw [e2]
    refine jj_if C rfl (fun _ => ?_) (fun z => absurd rfl z)
    refine jj_go C 1 rfl ?_
    exact jj_iret C rfl rfl rfl (Nat.le_of_ble_eq_true rfl) (Nat.le_of_ble_eq_true rfl) ⟨rfl, hf1.tr hf2, _, _, _, hR2, hs2, fun q => by rw [e1] at q; cases q⟩
theorem rr_find (hR : RR aC h y ad rh sg mu io) : jj_Ct l D aC base yn_MO_find yb_MO_find 2 (some .int) 5 0 0 [.ref y] h (fun q h' => q = some (.int (px_fd (sg 2) rh (rh 33))) ∧ jj_fr (rr_S y ad) h h' ∧ ∃ rh' sg' io', RR aC h' y ad rh' sg' mu io' ∧ sc (jr_up rh 33 []) sg io rh' sg' io') := by
  refine jj_start (tb := tb_MO_find) (by decide) tg_MO_find (Nat.le_of_ble_eq_true rfl) ?_
  intro p e s m args below meth cc C
  refine jj_go C 1 rfl ?_
  refine jj_callV C rfl ml_MO_157 wd_976 hR.oy rfl se_MO_MO_takeName (rr_takeName hR) (rest := []) rfl rfl ⟨Nat.le_of_ble_eq_true rfl, Nat.le_of_ble_eq_true rfl⟩ (Nat.le_of_ble_eq_true rfl) (Nat.le_of_ble_eq_true rfl) (Nat.le_of_ble_eq_true rfl) ?_
  rintro q9 h1 ⟨rfl, hf1, rh1, sg1, io1, hR1, hs1, h32⟩
  unfold px_fd px_who
  rcases jb_cases (px_rd (rh 33) false) with ⟨e1, e2⟩ | ⟨e1, e2⟩
  · rw [e2, if_pos e1, if_pos e1]
    refine jj_if C rfl (fun z => absurd z (by decide)) (fun _ => ?_)
    refine jj_go C 2 rfl ?_
    refine jj_callV C rfl ml_MO_161 wd_1021 hR1.oy rfl se_MO_MO_beanWith (rr_beanWith (r := 32) hR1 (by decide)) (rest := []) rfl rfl ⟨Nat.le_of_ble_eq_true rfl, Nat.le_of_ble_eq_true rfl⟩ (Nat.le_of_ble_eq_true rfl) (Nat.le_of_ble_eq_true rfl) (Nat.le_of_ble_eq_true rfl) ?_
    rintro q9 h9 ⟨rfl, hh9⟩
    rw [hh9]
    have hbw : px_bw (sg1 2) rh1 (rh1 32) 12 0 = px_bw (sg 2) rh (px_fo (rh 33)) 12 0 := by
      rw [h32 e1, hs1.2.1 2 (by decide) (by decide), px_bw_cg (rh := rh) 12 0 (fun i hi => (hs1.1 i (by omega) (by omega)).trans (jr_up_n (by omega)))]
    rw [hbw]
    refine jj_go C 2 rfl ?_
    cases hb : px_bw (sg 2) rh (px_fo (rh 33)) 12 0 with
    | none =>
      refine jj_if C rfl (fun z => absurd z (by decide)) (fun _ => ?_)
      refine jj_go C 2 rfl ?_
      exact jj_iret C rfl rfl rfl (Nat.le_of_ble_eq_true rfl) (Nat.le_of_ble_eq_true rfl) ⟨rfl, hf1, _, _, _, hR1, hs1⟩
    | some b =>
      have hlt := px_bw_lt 12 0 hb
      refine jj_if C rfl (fun _ => ?_) (fun z => absurd (nI_pos' (show b < 2 ^ 31 by omega)) z)
      refine jj_go C 1 rfl ?_
      exact jj_iret C rfl rfl rfl (Nat.le_of_ble_eq_true rfl) (Nat.le_of_ble_eq_true rfl) ⟨rfl, hf1, _, _, _, hR1, hs1⟩
  · rw [e2, if_neg (by rw [e1]; decide)]
    refine jj_if C rfl (fun _ => ?_) (fun z => absurd rfl z)
    refine jj_go C 1 rfl ?_
    exact jj_iret C rfl rfl rfl (Nat.le_of_ble_eq_true rfl) (Nat.le_of_ble_eq_true rfl) ⟨by rw [if_neg (by rw [e1]; decide)], hf1, _, _, _, hR1, hs1⟩
theorem rr_unregister (hR : RR aC h y ad rh sg mu io) : jj_Ct l D aC base yn_MO_unregister yb_MO_unregister 2 (some .int) 6 0 0 [.ref y] h (fun q h' => q = some (.int (px_fd (sg 2) rh (rh 33))) ∧ jj_fr (rr_S y ad) h h' ∧ (px_who (sg 2) rh (rh 33) = none → RX aC h' y ad (jr_up rh 33 []) sg mu io) ∧ (∀ b, px_who (sg 2) rh (rh 33) = some b → RX aC h' y ad (jr_up rh 33 []) (gv_sg (va_up sg 2 (upd (sg 2) b 0)) io 1 (nI b) 0) mu (gv_io io 1))) := by
  refine jj_start (tb := tb_MO_unregister) (by decide) tg_MO_unregister (Nat.le_of_ble_eq_true rfl) ?_
  intro p e s m args below meth cc C
  refine jj_go C 1 rfl ?_
  refine jj_callV C rfl ml_MO_167 wd_1036 hR.oy rfl se_MO_MO_find (rr_find hR) (rest := []) rfl rfl ⟨Nat.le_of_ble_eq_true rfl, Nat.le_of_ble_eq_true rfl⟩ (Nat.le_of_ble_eq_true rfl) (Nat.le_of_ble_eq_true rfl) (Nat.le_of_ble_eq_true rfl) ?_
  rintro q9 h1 ⟨rfl, hf1, rh1, sg1, io1, hR1, hs1⟩
  refine jj_go C 2 rfl ?_
  cases hb : px_who (sg 2) rh (rh 33) with
  | none =>
    have hneg : ¬ (0 : Int32) ≤ px_fd (sg 2) rh (rh 33) := by
      unfold px_fd
      rw [hb]
      by_cases hr : px_rd (rh 33) false = true
      · show ¬ (0 : Int32) ≤ (if px_rd (rh 33) false = true then -2 else -1)
        rw [if_pos hr]
        decide
      · show ¬ (0 : Int32) ≤ (if px_rd (rh 33) false = true then -2 else -1)
        rw [if_neg hr]
        decide
    refine jj_if C rfl (fun z => absurd z hneg) (fun _ => ?_)
    refine jj_go C 1 rfl ?_
    exact jj_iret C rfl rfl rfl (Nat.le_of_ble_eq_true rfl) (Nat.le_of_ble_eq_true rfl) ⟨rfl, hf1, fun _ => ⟨_, _, _, hR1, hs1⟩, fun b q => by cases q⟩
  | some b =>
    obtain ⟨hlt, hth, -, -⟩ := px_who_lt hb
    have hfd : px_fd (sg 2) rh (rh 33) = nI b := by
      unfold px_fd
      rw [hb]
    rw [hfd]
    refine jj_if C rfl (fun _ => ?_) (fun z => absurd (nI_pos' (show b < 2 ^ 31 by omega)) z)
    refine jj_go C 1 rfl ?_
    refine jj_getf C rfl fl_MO_17 hR1.oy rfl ?_
    refine jj_go C 2 rfl ?_
    refine jj_zast C (n := 12) (f := sg1 2) rfl (hR1.oc (k := 2) (by decide) (by decide) (by decide)) rfl hlt (by decide) ?_
    have hR2 := hR1.set (k := 2) (by decide) (by decide) (by decide) (upd (sg1 2) b 0)
    have hf2 := hf1.up (a := ad 2) (x := .inl (aC (rr_ty 2), rr_len 2, .inl (upd (sg1 2) b 0))) (Or.inl (rr_S_k (by decide)))
    generalize hh2 : (jj_up h1 (ad 2) (.inl (aC (rr_ty 2), rr_len 2, .inl (upd (sg1 2) b 0)))) = h2 at hR2 hf2
    refine jj_eq (h' := h2) rfl rfl rfl hh2 ?_
    have hs2 := hs1.set 2 (upd (sg1 2) b 0)
    rw [hs1.2.1 2 (by decide) (by decide)] at hs2 hR2
    refine jj_go C 4 rfl ?_
    refine jj_callV C rfl ml_MO_164 wd_1029 hR2.oy rfl se_MO_MO_give (As := [.int 1, .int (nI b), .int 0]) (rr_give hR2) (rest := []) rfl rfl ⟨Nat.le_of_ble_eq_true rfl, Nat.le_of_ble_eq_true rfl⟩ (Nat.le_of_ble_eq_true rfl) (Nat.le_of_ble_eq_true rfl) (Nat.le_of_ble_eq_true rfl) ?_
    rintro q9 h3 ⟨rfl, hR3, hf3⟩
    refine jj_go C 1 rfl ?_
    exact jj_iret C rfl rfl rfl (Nat.le_of_ble_eq_true rfl) (Nat.le_of_ble_eq_true rfl) ⟨rfl, hf2.tr hf3, (fun q => by cases q), fun b' q => by cases q; exact ⟨_, _, _, hR3, hs2.give 1 (nI b) 0⟩⟩
end MT
