/-! The reference: its rows of letters. Texts are lists of codes. -/
def jb_I (b : Bool) : Int32 := if b then 1 else 0
theorem jb_t : jb_I true = 1 := rfl
theorem jb_f : jb_I false = 0 := rfl
def pc_sm (c : Nat) : Bool := Nat.ble 97 c && Nat.ble c 122
def pc_dg (c : Nat) : Bool := Nat.ble 48 c && Nat.ble c 57
def pc_al (c : Nat) (w : Bool) : Bool := pc_sm c || (pc_dg c || (w && (c == 63 || c == 42)))
def pc_pt (c : Nat) : Bool := !(c == 0) && (!(c == 44) && !(c == 58))
def pc_op (c : Nat) : Bool := c == 43 || (c == 45 || (c == 42 || c == 47))
def pc_rl (c : Nat) : Bool := c == 61 || (c == 60 || (c == 62 || c == 35))
theorem pc_sm_i {c : Nat} : pc_sm c = true ↔ 97 ≤ c ∧ c ≤ 122 := by
  unfold pc_sm
  rw [Bool.and_eq_true, Nat.ble_eq, Nat.ble_eq]
theorem pc_dg_i {c : Nat} : pc_dg c = true ↔ 48 ≤ c ∧ c ≤ 57 := by
  unfold pc_dg
  rw [Bool.and_eq_true, Nat.ble_eq, Nat.ble_eq]
theorem pb_f {b : Bool} {P : Prop} (h : b = true ↔ P) (hn : ¬ P) : b = false := by
  cases b
  · rfl
  · exact absurd (h.mp rfl) hn
theorem ky_char : ∀ k, k < 128 → vp_nar .char (nI k) = nI k := by decide +kernel
/-- the letter of a text at a place; 0 where there is none -/
def jr_g (t : List Nat) (x : Int32) : Nat := if x < 0 then 0 else t.getD x.toNatClampNeg 0
theorem jr_g_n {t : List Nat} {j : Nat} (hj : j < 2 ^ 31) : jr_g t (nI j) = t.getD j 0 := by
  unfold jr_g
  rw [if_neg (nI_pos hj), nI_clamp hj]
theorem jr_g_neg {t : List Nat} {x : Int32} (hx : x < 0) : jr_g t x = 0 := if_pos hx
def jr_up (ρ : Nat → List Nat) (r : Nat) (t : List Nat) : Nat → List Nat := fun q => if q = r then t else ρ q
theorem jr_up_s {ρ : Nat → List Nat} {r : Nat} {t : List Nat} : jr_up ρ r t r = t := if_pos rfl
theorem jr_up_n {ρ : Nat → List Nat} {r q : Nat} {t : List Nat} (h : q ≠ r) : jr_up ρ r t q = ρ q := if_neg h
theorem jr_up_up {ρ : Nat → List Nat} {r : Nat} {t u : List Nat} : jr_up (jr_up ρ r t) r u = jr_up ρ r u := by
  funext q
  unfold jr_up
  split <;> rfl
/-- the rows hold the texts -/
def jr_R (L S : Nat → Int32) (ρ : Nat → List Nat) : Prop := ∀ r, r < 34 → S r = nI (ρ r).length ∧ (ρ r).length ≤ 60 ∧ ∀ i, i < (ρ r).length → L (60 * r + i) = nI ((ρ r).getD i 0) ∧ (ρ r).getD i 0 < 128
/-- the reference's rows -/
def jr_T (aC : Nat → ClassId) (h : jjHp) (y a0 a1 : Nat) (fs : List Value) (ρ : Nat → List Nat) : Prop := h y = some (.inr (9, fs)) ∧ fs[0]? = some (.ref a0) ∧ fs[1]? = some (.ref a1) ∧ a0 ≠ a1 ∧ ∃ L S, h a0 = some (.inl (aC 2, 2040, .inl L)) ∧ h a1 = some (.inl (aC 0, 34, .inl S)) ∧ jr_R L S ρ
theorem jr_lt {t : List Nat} (h : ∀ i, i < t.length → t.getD i 0 < 128) (j : Nat) : t.getD j 0 < 128 := by
  by_cases hj : j < t.length
  · exact h j hj
  · rw [List.getD_eq_getElem?_getD, List.getElem?_eq_none (by omega)]
    decide
section MR
variable {l : Launch} {D : va_G} {aC : Nat → ClassId} {base : Nat} {h : jjHp}
theorem mo_isSmall {c : Nat} (hc : c < 65536) : jj_Ct l D aC base yn_MO_isSmall yb_MO_isSmall 1 (some .boolean) 0 0 0 [.int (nI c)] h (fun r h' => r = some (.int (jb_I (pc_sm c))) ∧ h' = h) := by
  refine jj_start (tb := tb_MO_isSmall) (by decide) tg_MO_isSmall (Nat.le_of_ble_eq_true rfl) ?_
  intro p e s m args below meth cc C
  refine jj_go C 2 rfl ?_
  refine jj_if C rfl (fun h1 => ?_) (fun h1 => ?_)
  · have g1 := (nI_ltI (a := c) (b := 97) (by omega) (by decide)).mp h1
    refine jj_go C 1 rfl ?_
    exact jj_iret C rfl rfl rfl (Nat.le_refl _) (Nat.le_refl _) ⟨by rw [pb_f pc_sm_i (by omega)]; rfl, rfl⟩
  · have g1 : ¬ c < 97 := fun q => h1 ((nI_ltI (a := c) (b := 97) (by omega) (by decide)).mpr q)
    refine jj_go C 2 rfl ?_
    refine jj_if C rfl (fun h2 => ?_) (fun h2 => ?_)
    · have g2 := (nI_ltI (a := 122) (b := c) (by decide) (by omega)).mp h2
      refine jj_go C 1 rfl ?_
      exact jj_iret C rfl rfl rfl (Nat.le_refl _) (Nat.le_refl _) ⟨by rw [pb_f pc_sm_i (by omega)]; rfl, rfl⟩
    · have g2 : ¬ 122 < c := fun q => h2 ((nI_ltI (a := 122) (b := c) (by decide) (by omega)).mpr q)
      refine jj_go C 2 rfl ?_
      exact jj_iret C rfl rfl rfl (Nat.le_refl _) (Nat.le_refl _) ⟨by rw [pc_sm_i.mpr (by omega)]; rfl, rfl⟩
theorem mo_isDigit {c : Nat} (hc : c < 65536) : jj_Ct l D aC base yn_MO_isDigit yb_MO_isDigit 1 (some .boolean) 0 0 0 [.int (nI c)] h (fun r h' => r = some (.int (jb_I (pc_dg c))) ∧ h' = h) := by
  refine jj_start (tb := tb_MO_isDigit) (by decide) tg_MO_isDigit (Nat.le_of_ble_eq_true rfl) ?_
  intro p e s m args below meth cc C
  refine jj_go C 2 rfl ?_
  refine jj_if C rfl (fun h1 => ?_) (fun h1 => ?_)
  · have g1 := (nI_ltI (a := c) (b := 48) (by omega) (by decide)).mp h1
    refine jj_go C 1 rfl ?_
    exact jj_iret C rfl rfl rfl (Nat.le_refl _) (Nat.le_refl _) ⟨by rw [pb_f pc_dg_i (by omega)]; rfl, rfl⟩
  · have g1 : ¬ c < 48 := fun q => h1 ((nI_ltI (a := c) (b := 48) (by omega) (by decide)).mpr q)
    refine jj_go C 2 rfl ?_
    refine jj_if C rfl (fun h2 => ?_) (fun h2 => ?_)
    · have g2 := (nI_ltI (a := 57) (b := c) (by decide) (by omega)).mp h2
      refine jj_go C 1 rfl ?_
      exact jj_iret C rfl rfl rfl (Nat.le_refl _) (Nat.le_refl _) ⟨by rw [pb_f pc_dg_i (by omega)]; rfl, rfl⟩
    · have g2 : ¬ 57 < c := fun q => h2 ((nI_ltI (a := 57) (b := c) (by decide) (by omega)).mpr q)
      refine jj_go C 2 rfl ?_
      exact jj_iret C rfl rfl rfl (Nat.le_refl _) (Nat.le_refl _) ⟨by rw [pc_dg_i.mpr (by omega)]; rfl, rfl⟩
theorem mo_get1 {y a0 a1 r : Nat} {x : Int32} {fs : List Value} {ρ : Nat → List Nat} (hT : jr_T aC h y a0 a1 fs ρ) (hr : r < 34) : jj_Ct l D aC base yn_MO_get1 yb_MO_get1 3 (some .char) 0 0 0 [.ref y, .int (nI r), .int x] h (fun q h' => q = some (.int (nI (jr_g (ρ r) x))) ∧ h' = h) := by
  obtain ⟨hy, f0, f1, hne, L, S, h0, h1, hR⟩ := hT
  obtain ⟨r1, r2, r3⟩ := hR r hr
  refine jj_start (tb := tb_MO_get1) (by decide) tg_MO_get1 (Nat.le_of_ble_eq_true rfl) ?_
  intro p e s m args below meth cc C
  refine jj_go C 1 rfl ?_
  refine jj_if C rfl (fun hx => ?_) (fun hx => ?_)
  · refine jj_go C 2 rfl ?_
    exact jj_iret C rfl rfl rfl (Nat.le_refl _) (Nat.le_refl _) ⟨by rw [jr_g_neg hx]; rfl, rfl⟩
  · obtain ⟨j, hj, rfl⟩ := nI_of hx
    refine jj_go C 2 rfl ?_
    refine jj_getf C rfl fl_MO_13 hy f1 ?_
    refine jj_go C 1 rfl ?_
    refine jj_iald C rfl h1 rfl hr (by decide) ?_
    refine jj_top r1 ?_
    refine jj_if C rfl (fun hc => ?_) (fun hc => ?_)
    · have hlt : j < (ρ r).length := (nI_ltI hj (by omega)).mp hc
      obtain ⟨g1, g2⟩ := r3 j hlt
      refine jj_go C 1 rfl ?_
      refine jj_getf C rfl fl_MO_7 hy f0 ?_
      refine jj_go C 3 rfl ?_
      refine jj_top (show (60 : Int32) * nI r = nI (60 * r) from pk_mul 60 r) ?_
      refine jj_go C 2 rfl ?_
      refine jj_top (nI_add _ _) ?_
      refine jj_cald C rfl h0 rfl (by omega) (by decide) ?_
      refine jj_top g1 ?_
      exact jj_iret C rfl rfl (pk_charN (by omega)).1 (Nat.le_refl _) (Nat.le_refl _) ⟨by rw [jr_g_n hj], rfl⟩
    · have hge : ¬ j < (ρ r).length := fun q => hc ((nI_ltI hj (by omega)).mpr q)
      refine jj_go C 2 rfl ?_
      refine jj_iret C rfl rfl rfl (Nat.le_refl _) (Nat.le_refl _) ⟨?_, rfl⟩
      rw [jr_g_n hj, List.getD_eq_getElem?_getD, List.getElem?_eq_none (by omega)]
      rfl
theorem mo_put {y a0 a1 r k : Nat} {fs : List Value} {ρ : Nat → List Nat} (hT : jr_T aC h y a0 a1 fs ρ) (hr : r < 34) (hl : (ρ r).length < 60) (hk : k < 128) : jj_Ct l D aC base yn_MO_put yb_MO_put 3 none 0 0 0 [.ref y, .int (nI r), .int (nI k)] h (fun q h' => q = none ∧ jr_T aC h' y a0 a1 fs (jr_up ρ r (ρ r ++ [k])) ∧ jj_fr [a0, a1] h h') := by
  obtain ⟨hy, f0, f1, hne, L, S, h0, h1, hR⟩ := hT
  obtain ⟨r1, r2, r3⟩ := hR r hr
  have n0 : a0 ≠ y := kx_ne (m := 0) (aC := aC) hy h0
  have n1 : a1 ≠ y := kx_ne (m := 0) (aC := aC) hy h1
  refine jj_start (tb := tb_MO_put) (by decide) tg_MO_put (Nat.le_of_ble_eq_true rfl) ?_
  intro p e s m args below meth cc C
  refine jj_go C 1 rfl ?_
  refine jj_getf C rfl fl_MO_7 hy f0 ?_
  refine jj_go C 3 rfl ?_
  refine jj_top (show (60 : Int32) * nI r = nI (60 * r) from pk_mul 60 r) ?_
  refine jj_go C 1 rfl ?_
  refine jj_getf C rfl fl_MO_13 hy f1 ?_
  refine jj_go C 1 rfl ?_
  refine jj_iald C rfl h1 rfl hr (by decide) ?_
  refine jj_top r1 ?_
  refine jj_go C 1 rfl ?_
  refine jj_top (nI_add _ _) ?_
  refine jj_go C 1 rfl ?_
  refine jj_cast C rfl h0 rfl (by omega) (by decide) ?_
  refine jj_go C 1 rfl ?_
  refine jj_getf C rfl fl_MO_13 ((jj_up_n (Ne.symm n0)).trans hy) f1 ?_
  refine jj_go C 2 rfl ?_
  refine jj_iald C rfl ((jj_up_n (Ne.symm hne)).trans h1) rfl hr (by decide) ?_
  refine jj_top r1 ?_
  refine jj_go C 2 rfl ?_
  refine jj_top (nI_1 _) ?_
  refine jj_iast C rfl ((jj_up_n (Ne.symm hne)).trans h1) rfl hr (by decide) ?_
  refine jj_vret C rfl rfl (Nat.le_refl _) (Nat.le_refl _) ⟨rfl, ⟨?_, f0, f1, hne, upd L (60 * r + (ρ r).length) (nI k), upd S r (nI ((ρ r).length + 1)), ?_, ?_, ?_⟩, ?_⟩
  · rw [jj_up_n (Ne.symm n1), jj_up_n (Ne.symm n0)]
    exact hy
  · rw [jj_up_n hne, jj_up_s, ky_char k hk]
  · exact jj_up_s
  · intro q hq
    obtain ⟨q1, q2, q3⟩ := hR q hq
    by_cases hqr : q = r
    · subst hqr
      rw [jr_up_s]
      refine ⟨by simp [upd], by simp; omega, fun i hi => ?_⟩
      simp only [List.length_append, List.length_cons, List.length_nil] at hi
      by_cases hi2 : i = (ρ q).length
      · subst hi2
        simp [upd, List.getD_eq_getElem?_getD, hk]
      · have hi3 : i < (ρ q).length := by omega
        have g := r3 i hi3
        simp only [upd, if_neg (show ¬ 60 * q + i = 60 * q + (ρ q).length by omega), List.getD_eq_getElem?_getD, List.getElem?_append_left hi3] at g ⊢
        exact g
    · rw [jr_up_n hqr]
      refine ⟨by simp only [upd, if_neg hqr]; exact q1, q2, fun i hi => ?_⟩
      simp only [upd, if_neg (show ¬ 60 * q + i = 60 * r + (ρ r).length by omega)]
      exact q3 i hi
  · exact (jj_fr.rf.up (Or.inl List.mem_cons_self)).up (Or.inl (List.mem_cons_of_mem _ List.mem_cons_self))
end MR
