/-! The class's Pattern: rows, properties, lists -/
section PT1
variable {l : Launch} {D : va_G} {aC : Nat → ClassId} {base : Nat} {h : jjHp}
theorem kt_ST_length {a b : Nat} {t : List Nat} (hs : kx_ST aC h a b t) : jj_Ct l D aC base yn_ST_length yb_ST_length 1 (some .int) 1 0 0 [.ref a] h (fun r h' => r = some (.int (nI t.length)) ∧ h' = h) := by
  obtain ⟨hs1, hz, f, ho, hv, -⟩ := hs
  exact kx_ST_length ho hv
theorem kt_ST_charAt {a b i : Nat} {t : List Nat} (hs : kx_ST aC h a b t) (hi : i < t.length) (hl : t.length < 65536) : jj_Ct l D aC base yn_ST_charAt yb_ST_charAt 2 (some .char) 3 0 0 [.ref a, .int (nI i)] h (fun r h' => r = some (.int (nI (t.getD i 0))) ∧ h' = h) := by
  obtain ⟨hs1, hz, f, ho, hv, htx⟩ := hs
  obtain ⟨g1, g2⟩ := htx i hi
  exact kx_ST_charAt ho hv hi (by omega) g1 g2
theorem kx_ST.lt {a b : Nat} {t : List Nat} (hs : kx_ST aC h a b t) (i : Nat) : t.getD i 0 < 128 := by
  obtain ⟨hs1, hz, f, ho, hv, htx⟩ := hs
  exact jr_lt (fun i hi => (htx i hi).2) i
theorem kx_ST.recv {a b : Nat} {t : List Nat} (hs : kx_ST aC h a b t) : ∃ fs, h a = some (.inr (10, fs)) := by
  obtain ⟨hs1, hz, f, ho, -⟩ := hs
  exact ⟨_, ho⟩
theorem kx_ST.keep {a b : Nat} {t : List Nat} {S : List Nat} {h' : jjHp} (hs : kx_ST aC h a b t) (hf : jj_fr S h h') (ha : a ∉ S) (hb : b ∉ S) : kx_ST aC h' a b t := by
  obtain ⟨hs1, hz, f, ho, hv, htx⟩ := hs
  exact ⟨hs1, hz, f, hf a _ ha ho, hf b _ hb hv, htx⟩
theorem pt_isRow {c : Nat} (hc : c < 65536) : jj_Ct l D aC base yn_PT_isRowCharacter yb_PT_isRowCharacter 1 (some .boolean) 0 0 0 [.int (nI c)] h (fun r h' => r = some (.int (jb_I (pc_al c true))) ∧ h' = h) := by
  refine jj_start (tb := tb_PT_isRowCharacter) (by decide) tg_PT_isRowCharacter (Nat.le_of_ble_eq_true rfl) ?_
  intro p e s m args below meth cc C
  have yes : pc_al c true = true → jj_J p l e (jj_rm 0 0 0) s m args below meth cc D base 1 (MQ below (jj_Q D base (fun r h' => r = some (.int (jb_I (pc_al c true))) ∧ h' = h)) args s 0 0 (jj_A base)) 36 [(0, .int (nI c))] [] h 0 0 := by
    intro hy
    refine jj_go C 2 rfl ?_
    exact jj_iret C rfl rfl rfl (Nat.le_refl _) (Nat.le_refl _) ⟨by rw [hy]; rfl, rfl⟩
  have third : ¬ pc_sm c = true → ¬ pc_dg c = true → jj_J p l e (jj_rm 0 0 0) s m args below meth cc D base 1 (MQ below (jj_Q D base (fun r h' => r = some (.int (jb_I (pc_al c true))) ∧ h' = h)) args s 0 0 (jj_A base)) 24 [(0, .int (nI c))] [] h 0 0 := by
    intro h1 h2
    refine jj_go C 2 rfl ?_
    refine jj_if C rfl (fun z => ?_) (fun z => ?_)
    · have g := (nI_lit (k := 63) hc (by decide)).mp z
      exact yes (by simp [pc_al, g])
    · have g : ¬ c = 63 := fun q => z ((nI_lit (k := 63) hc (by decide)).mpr q)
      refine jj_go C 2 rfl ?_
      refine jj_if C rfl (fun z => ?_) (fun z => ?_)
      · have g2 := (nI_lit (k := 42) hc (by decide)).mp z
        exact yes (by simp [pc_al, g2])
      · have g2 : ¬ c = 42 := fun q => z ((nI_lit (k := 42) hc (by decide)).mpr q)
        refine jj_go C 1 rfl ?_
        exact jj_iret C rfl rfl rfl (Nat.le_refl _) (Nat.le_refl _) ⟨by simp [pc_al, h1, h2, g, g2, jb_I], rfl⟩
  have second : ¬ pc_sm c = true → jj_J p l e (jj_rm 0 0 0) s m args below meth cc D base 1 (MQ below (jj_Q D base (fun r h' => r = some (.int (jb_I (pc_al c true))) ∧ h' = h)) args s 0 0 (jj_A base)) 12 [(0, .int (nI c))] [] h 0 0 := by
    intro h1
    refine jj_go C 2 rfl ?_
    refine jj_if C rfl (fun z => ?_) (fun z => ?_)
    · have g := (nI_ltI (a := c) (b := 48) (by omega) (by decide)).mp z
      exact third h1 (fun q => by have := pc_dg_i.mp q; omega)
    · have g : ¬ c < 48 := fun q => z ((nI_ltI (a := c) (b := 48) (by omega) (by decide)).mpr q)
      refine jj_go C 2 rfl ?_
      refine jj_if C rfl (fun z => ?_) (fun z => ?_)
      · have g2 := (nI_leI (a := c) (b := 57) (by omega) (by decide)).mp z
        exact yes (by simp [pc_al, pc_dg_i.mpr ⟨by omega, g2⟩])
      · have g2 : ¬ c ≤ 57 := fun q => z ((nI_leI (a := c) (b := 57) (by omega) (by decide)).mpr q)
        exact third h1 (fun q => by have := pc_dg_i.mp q; omega)
  refine jj_go C 2 rfl ?_
  refine jj_if C rfl (fun z => ?_) (fun z => ?_)
  · have g := (nI_ltI (a := c) (b := 97) (by omega) (by decide)).mp z
    exact second (fun q => by have := pc_sm_i.mp q; omega)
  · have g : ¬ c < 97 := fun q => z ((nI_ltI (a := c) (b := 97) (by omega) (by decide)).mpr q)
    refine jj_go C 2 rfl ?_
    refine jj_if C rfl (fun z => ?_) (fun z => ?_)
    · have g2 := (nI_leI (a := c) (b := 122) (by omega) (by decide)).mp z
      exact yes (by simp [pc_al, pc_sm_i.mpr ⟨by omega, g2⟩])
    · have g2 : ¬ c ≤ 122 := fun q => z ((nI_leI (a := c) (b := 122) (by omega) (by decide)).mpr q)
      exact second (fun q => by have := pc_sm_i.mp q; omega)
end PT1
/-- a Pattern in the reading: its text, where the values start and end -/
def pt_at (aC : Nat → ClassId) (h : jjHp) (pt tx txb st en : Nat) (t : List Nat) (Sf Ef : Nat → Int32) (dm op : Int32) (fm : Value) : Prop :=
  h pt = some (.inr (3, [.ref tx, .ref st, .ref en, .int dm, .int op, fm])) ∧ kx_ST aC h tx txb t ∧ h st = some (.inl (aC 0, 26, .inl Sf)) ∧ h en = some (.inl (aC 0, 26, .inl Ef)) ∧ st ≠ en ∧ st ≠ txb ∧ en ≠ txb ∧ t.length ≤ 60
def px_s (t : List Nat) (Sf Ef : Nat → Int32) (P : Nat → Option Nat) : Prop := ∀ k, k < 26 → (P k = none ∧ Sf k = 0) ∨ ∃ p, P k = some p ∧ p ≤ 60 ∧ Sf k = nI (p + 2) ∧ Ef k = nI (px_re t true (p + 2))
theorem px_s_up {t : List Nat} {Sf Ef : Nat → Int32} {P : Nat → Option Nat} {c p : Nat} (h : px_s t Sf Ef P) (hp : p ≤ 60) : px_s t (upd Sf c (nI (p + 2))) (upd Ef c (nI (px_re t true (p + 2)))) (va_up P c (some p)) := by
  intro k hk
  by_cases hkc : k = c
  · subst hkc
    exact Or.inr ⟨p, by simp [va_up], hp, by simp [upd], by simp [upd]⟩
  · simp only [va_up, upd, if_neg hkc]
    exact h k hk
/-- a property pattern at p: where it ends -/
def pk_pr (t : List Nat) (P : Nat → Option Nat) (p : Nat) : Option Nat :=
  if pc_sm (t.getD p 0) = true ∧ t.getD (p + 1) 0 = 61 then
    if (P (t.getD p 0 - 97)).isSome = true then none
    else if px_re t true (p + 2) < p + 3 ∨ p + 6 < px_re t true (p + 2) then none
    else some (px_re t true (p + 2))
  else none
section PT2
variable {l : Launch} {D : va_G} {aC : Nat → ClassId} {base : Nat} {h : jjHp} {pt tx txb st en : Nat} {t : List Nat} {Sf Ef : Nat → Int32} {dm op : Int32} {fm : Value}
theorem pt_rowEnd {q : Nat} (hp : pt_at aC h pt tx txb st en t Sf Ef dm op fm) (hq : q ≤ 70) : jj_Ct l D aC base yn_PT_rowEnd yb_PT_rowEnd 3 (some .int) 4 0 0 [.ref pt, .int (nI q)] h (fun r h' => r = some (.int (nI (px_re t true q))) ∧ h' = h) := by
  obtain ⟨ho, hs, hst, hen, n1, n2, n3, hlen⟩ := hp
  obtain ⟨fs, hrc⟩ := hs.recv
  refine jj_start (tb := tb_PT_rowEnd) (by decide) tg_PT_rowEnd (Nat.le_of_ble_eq_true rfl) ?_
  intro p e s m args below meth cc C
  have loop : ∀ (k i : Nat) (v : Int32), v = nI i → t.length ≤ i + k → i ≤ 131 → px_end t true k i = px_re t true q →
      jj_J p l e (jj_rm 4 0 0) s m args below meth cc D base 3 (MQ below (jj_Q D base (fun r h' => r = some (.int (nI (px_re t true q))) ∧ h' = h)) args s 0 0 (jj_A base)) 2 [(0, .ref pt), (1, .int (nI q)), (2, .int v)] [] h 0 0 := by
    intro k
    induction k with
    | zero =>
      intro i v hv hk hi hE
      refine jj_go C 2 rfl ?_
      refine jj_getf C rfl fl_PT_32 ho rfl ?_
      refine jj_callV C rfl ml_PT_39 wd_364 hrc rfl se_ST_ST_length (kt_ST_length hs) (rest := [.int v]) rfl rfl ⟨Nat.le_of_ble_eq_true rfl, Nat.le_of_ble_eq_true rfl⟩ (Nat.le_refl _) (Nat.le_refl _) (Nat.le_of_ble_eq_true rfl) ?_
      rintro q9 h9 ⟨rfl, hh9⟩
      rw [hh9]
      refine jj_if C rfl (fun _ => ?_) (fun z => absurd (by rw [hv]; exact nI_le (by omega) (by omega)) z)
      refine jj_go C 1 rfl ?_
      exact jj_iret C rfl rfl rfl (Nat.le_refl _) (Nat.le_refl _) ⟨by rw [hv, ← hE]; rfl, rfl⟩
    | succ k ih =>
      intro i v hv hk hi hE
      refine jj_go C 2 rfl ?_
      refine jj_getf C rfl fl_PT_32 ho rfl ?_
      refine jj_callV C rfl ml_PT_39 wd_364 hrc rfl se_ST_ST_length (kt_ST_length hs) (rest := [.int v]) rfl rfl ⟨Nat.le_of_ble_eq_true rfl, Nat.le_of_ble_eq_true rfl⟩ (Nat.le_refl _) (Nat.le_refl _) (Nat.le_of_ble_eq_true rfl) ?_
      rintro q9 h9 ⟨rfl, hh9⟩
      rw [hh9]
      refine jj_if C rfl (fun z => ?_) (fun z => ?_)
      · rw [hv] at z
        have g := (nI_leI (a := t.length) (b := i) (by omega) (by omega)).mp z
        refine jj_go C 1 rfl ?_
        refine jj_iret C rfl rfl rfl (Nat.le_refl _) (Nat.le_refl _) ⟨?_, rfl⟩
        rw [hv, ← hE]
        unfold px_end
        rw [if_neg (by omega)]
      · rw [hv] at z
        have g : i < t.length := Nat.not_le.mp (fun q9 => z (nI_le q9 (by omega)))
        have hci := hs.lt i
        refine jj_go C 1 rfl ?_
        refine jj_getf C rfl fl_PT_32 ho rfl ?_
        refine jj_go C 1 rfl ?_
        refine jj_callV C rfl ml_PT_45 wd_372 hrc rfl se_ST_ST_charAt (As := [.int v]) (by rw [hv]; exact kt_ST_charAt hs g (by omega)) (rest := []) rfl rfl ⟨Nat.le_of_ble_eq_true rfl, Nat.le_of_ble_eq_true rfl⟩ (Nat.le_refl _) (Nat.le_refl _) (Nat.zero_le _) ?_
        rintro q9 h9 ⟨rfl, hh9⟩
        rw [hh9]
        refine jj_callS C rfl ml_PT_64 wd_387 (pt_isRow (c := t.getD i 0) (by omega)) (rest := []) rfl rfl ⟨Nat.le_of_ble_eq_true rfl, Nat.le_of_ble_eq_true rfl⟩ (Nat.le_refl _) (Nat.le_refl _) (Nat.zero_le _) ?_
        rintro q9 h9 ⟨rfl, hh9⟩
        rw [hh9]
        rcases jb_cases (pc_al (t.getD i 0) true) with ⟨e3, e4⟩ | ⟨e3, e4⟩
        · rw [e4]
          refine jj_if C rfl (fun z => absurd z (by decide)) (fun _ => ?_)
          refine jj_go C 2 rfl ?_
          refine ih (i + 1) (v + 1) (by rw [hv, nI_1]) (by omega) (by omega) ?_
          rw [← hE]
          conv => rhs; unfold px_end
          rw [if_pos ⟨g, e3⟩]
        · rw [e4]
          refine jj_if C rfl (fun _ => ?_) (fun z => absurd rfl z)
          refine jj_go C 1 rfl ?_
          refine jj_iret C rfl rfl rfl (Nat.le_refl _) (Nat.le_refl _) ⟨?_, rfl⟩
          rw [hv, ← hE]
          unfold px_end
          rw [if_neg (by rw [e3]; exact fun q9 => by cases q9.2)]
  refine jj_go C 2 rfl ?_
  exact loop t.length q _ rfl (by omega) (by omega) rfl
theorem pt_parseProperty {q : Nat} {P : Nat → Option Nat} (hp : pt_at aC h pt tx txb st en t Sf Ef dm op fm) (hq : q < t.length) (hP : px_s t Sf Ef P) : jj_Ct l D aC base yn_PT_parseProperty yb_PT_parseProperty 5 (some .int) 5 0 0 [.ref pt, .int (nI q)] h (fun r h' => (∃ E, pk_pr t P q = some E ∧ r = some (.int (nI E)) ∧ ∃ Sf' Ef', pt_at aC h' pt tx txb st en t Sf' Ef' dm op fm ∧ px_s t Sf' Ef' (va_up P (t.getD q 0 - 97) (some q)) ∧ jj_fr [st, en] h h') ∨ (pk_pr t P q = none ∧ r = some (.int (-1)) ∧ h' = h)) := by
  have hp0 := hp
  obtain ⟨ho, hs, hst, hen, n1, n2, n3, hlen⟩ := hp
  obtain ⟨fs, hrc⟩ := hs.recv
  refine jj_start (tb := tb_PT_parseProperty) (by decide) tg_PT_parseProperty (Nat.le_of_ble_eq_true rfl) ?_
  intro p e s m args below meth cc C
  have hcq := hs.lt q
  have hcq1 := hs.lt (q + 1)
  have bad : ∀ (pc : Nat) (lc : jjLoc), jj_look tb_PT_parseProperty pc = some (.ireturn, pc + 1, 0, 0) → pk_pr t P q = none → jj_J p l e (jj_rm 5 0 0) s m args below meth cc D base 5 (MQ below (jj_Q D base (fun r h' => (∃ E, pk_pr t P q = some E ∧ r = some (.int (nI E)) ∧ ∃ Sf' Ef', pt_at aC h' pt tx txb st en t Sf' Ef' dm op fm ∧ px_s t Sf' Ef' (va_up P (t.getD q 0 - 97) (some q)) ∧ jj_fr [st, en] h h') ∨ (pk_pr t P q = none ∧ r = some (.int (-1)) ∧ h' = h))) args s 0 0 (jj_A base)) pc lc [.int (-1)] h 0 0 :=
    fun pc lc hl hn => jj_iret C hl rfl rfl (Nat.le_refl _) (Nat.le_refl _) (Or.inr ⟨hn, rfl, rfl⟩)
  refine jj_go C 3 rfl ?_
  refine jj_top (show nI q + 2 = nI (q + 2) from nI_add q 2) ?_
  refine jj_go C 3 rfl ?_
  refine jj_getf C rfl fl_PT_32 ho rfl ?_
  refine jj_callV C rfl ml_PT_39 wd_364 hrc rfl se_ST_ST_length (kt_ST_length hs) (rest := [.int (nI (q + 2))]) rfl rfl ⟨Nat.le_of_ble_eq_true rfl, Nat.le_of_ble_eq_true rfl⟩ (Nat.le_refl _) (Nat.le_refl _) (Nat.le_of_ble_eq_true rfl) ?_
  rintro q9 h9 ⟨rfl, hh9⟩
  rw [hh9]
  have hre1 : q + 2 ≤ px_re t true (q + 2) := px_end_le _ _
  have hre2 : px_re t true (q + 2) ≤ max (q + 2) t.length := px_end_max _ _
  refine jj_if C rfl (fun z => ?_) (fun z => ?_)
  · have g := (nI_leI (a := t.length) (b := q + 2) (by omega) (by omega)).mp z
    refine jj_go C 1 rfl ?_
    refine bad _ _ rfl ?_
    unfold pk_pr
    split
    · split
      · rfl
      · rw [if_pos (Or.inl (by omega))]
    · rfl
  have g : q + 2 < t.length := Nat.not_le.mp (fun q9 => z (nI_le q9 (by omega)))
  refine jj_go C 1 rfl ?_
  refine jj_getf C rfl fl_PT_32 ho rfl ?_
  refine jj_go C 3 rfl ?_
  refine jj_top (nI_1 q) ?_
  refine jj_callV C rfl ml_PT_45 wd_372 hrc rfl se_ST_ST_charAt (kt_ST_charAt hs (i := q + 1) (by omega) (by omega)) (rest := []) rfl rfl ⟨Nat.le_of_ble_eq_true rfl, Nat.le_of_ble_eq_true rfl⟩ (Nat.le_refl _) (Nat.le_refl _) (Nat.zero_le _) ?_
  rintro q9 h9 ⟨rfl, hh9⟩
  rw [hh9]
  refine jj_go C 1 rfl ?_
  refine jj_if C rfl (fun z => ?_) (fun z => ?_)
  rotate_left
  · have g61 : ¬ t.getD (q + 1) 0 = 61 := fun q9 => z (by rw [q9]; rfl)
    refine jj_go C 1 rfl ?_
    refine bad _ _ rfl ?_
    unfold pk_pr
    rw [if_neg (fun q9 => g61 q9.2)]
  have g61 := (nI_eq (b := 61) (by omega) (by decide)).mp z
  refine jj_go C 1 rfl ?_
  refine jj_getf C rfl fl_PT_32 ho rfl ?_
  refine jj_go C 1 rfl ?_
  refine jj_callV C rfl ml_PT_45 wd_372 hrc rfl se_ST_ST_charAt (kt_ST_charAt hs (i := q) (by omega) (by omega)) (rest := []) rfl rfl ⟨Nat.le_of_ble_eq_true rfl, Nat.le_of_ble_eq_true rfl⟩ (Nat.le_refl _) (Nat.le_refl _) (Nat.zero_le _) ?_
  rintro q9 h9 ⟨rfl, hh9⟩
  rw [hh9]
  refine jj_go C 4 rfl ?_
  by_cases hlo : t.getD q 0 < 97
  · refine jj_if C rfl (fun _ => ?_) (fun z => absurd (show nI (t.getD q 0) - nI 97 < 0 from pk_sneg (by decide) hlo) z)
    refine jj_go C 1 rfl ?_
    refine bad _ _ rfl ?_
    unfold pk_pr
    rw [if_neg (fun q9 => by have := pc_sm_i.mp q9.1; omega)]
  have hkey : nI (t.getD q 0) - 97 = nI (t.getD q 0 - 97) := pk_sub (b := 97) (by omega)
  rw [hkey]
  refine jj_if C rfl (fun z => absurd z (nI_pos (by omega))) (fun _ => ?_)
  refine jj_go C 2 rfl ?_
  refine jj_if C rfl (fun z => ?_) (fun z => ?_)
  · have g2 := (nI_leI (a := 26) (b := t.getD q 0 - 97) (by decide) (by omega)).mp z
    refine jj_go C 1 rfl ?_
    refine bad _ _ rfl ?_
    unfold pk_pr
    rw [if_neg (fun q9 => by have := pc_sm_i.mp q9.1; omega)]
  have hk26 : t.getD q 0 - 97 < 26 := Nat.not_le.mp (fun q9 => z (nI_le q9 (by omega)))
  have hsm : pc_sm (t.getD q 0) = true := pc_sm_i.mpr ⟨by omega, by omega⟩
  refine jj_go C 1 rfl ?_
  refine jj_getf C rfl fl_PT_9 ho rfl ?_
  refine jj_go C 1 rfl ?_
  refine jj_iald C rfl hst rfl hk26 (by decide) ?_
  rcases hP (t.getD q 0 - 97) hk26 with ⟨w1, w2⟩ | ⟨pq, w1, w3, w2, w4⟩
  rotate_left
  · rw [w2]
    refine jj_if C rfl (fun z => absurd z (nI_ne0 (by omega) (by omega))) (fun _ => ?_)
    refine jj_go C 1 rfl ?_
    refine bad _ _ rfl ?_
    unfold pk_pr
    rw [if_pos ⟨hsm, g61⟩, if_pos (by rw [w1]; rfl)]
  rw [w2]
  refine jj_if C rfl (fun _ => ?_) (fun z => absurd rfl z)
  refine jj_go C 2 rfl ?_
  refine jj_callV C rfl ml_PT_35 wd_361 ho rfl se_PT_PT_rowEnd (pt_rowEnd (q := q + 2) hp0 (by omega)) (rest := []) rfl rfl ⟨Nat.le_refl _, Nat.le_of_ble_eq_true rfl⟩ (Nat.le_refl _) (Nat.le_refl _) (Nat.zero_le _) ?_
  rintro q9 h9 ⟨rfl, hh9⟩
  rw [hh9]
  refine jj_go C 3 rfl ?_
  refine jj_if C rfl (fun z => ?_) (fun z => ?_)
  · have g2 := (nI_eq (a := px_re t true (q + 2)) (b := q + 2) (by omega) (by omega)).mp z
    refine jj_go C 1 rfl ?_
    refine bad _ _ rfl ?_
    unfold pk_pr
    rw [if_pos ⟨hsm, g61⟩, if_neg (by rw [w1]; decide), if_pos (Or.inl (by omega))]
  have g2 : ¬ px_re t true (q + 2) = q + 2 := fun q9 => z (by rw [q9])
  refine jj_go C 4 rfl ?_
  refine jj_top (show nI (q + 2) + 4 = nI (q + 6) from nI_add (q + 2) 4) ?_
  refine jj_if C rfl (fun z => ?_) (fun z => ?_)
  rotate_left
  · have g3 : ¬ px_re t true (q + 2) ≤ q + 6 := fun q9 => z (nI_le q9 (by omega))
    refine jj_go C 1 rfl ?_
    refine bad _ _ rfl ?_
    unfold pk_pr
    rw [if_pos ⟨hsm, g61⟩, if_neg (by rw [w1]; decide), if_pos (Or.inr (by omega))]
  have g3 := (nI_leI (a := px_re t true (q + 2)) (b := q + 6) (by omega) (by omega)).mp z
  have hsome : pk_pr t P q = some (px_re t true (q + 2)) := by
    unfold pk_pr
    rw [if_pos ⟨hsm, g61⟩, if_neg (by rw [w1]; decide), if_neg (by omega)]
  have np1 : pt ≠ st := Ne.symm (kx_ne (m := 0) (aC := aC) ho hst)
  have np2 : pt ≠ en := Ne.symm (kx_ne (m := 0) (aC := aC) ho hen)
  refine jj_go C 1 rfl ?_
  refine jj_getf C rfl fl_PT_9 ho rfl ?_
  refine jj_go C 2 rfl ?_
  refine jj_iast C rfl hst rfl hk26 (by decide) ?_
  refine jj_go C 1 rfl ?_
  refine jj_getf C rfl fl_PT_15 ((jj_up_n np1).trans ho) rfl ?_
  refine jj_go C 2 rfl ?_
  refine jj_iast C rfl ((jj_up_n (Ne.symm n1)).trans hen) rfl hk26 (by decide) ?_
  refine jj_go C 1 rfl ?_
  have hfr : jj_fr [st, en] h (jj_up (jj_up h st (.inl (aC 0, 26, .inl (upd Sf (t.getD q 0 - 97) (nI (q + 2)))))) en (.inl (aC 0, 26, .inl (upd Ef (t.getD q 0 - 97) (nI (px_re t true (q + 2))))))) := (jj_fr.rf.up (Or.inl List.mem_cons_self)).up (Or.inl (List.mem_cons_of_mem _ List.mem_cons_self))
  refine jj_iret C rfl rfl rfl (Nat.le_refl _) (Nat.le_refl _) (Or.inl ⟨_, hsome, rfl, _, _, ⟨?_, hs.keep hfr ?_ ?_, ?_, jj_up_s, n1, n2, n3, hlen⟩, px_s_up hP (by omega), hfr⟩)
  · rw [jj_up_n np2, jj_up_n np1]
    exact ho
  · intro q9
    rcases List.mem_cons.mp q9 with q9 | q9
    · rw [q9, hst] at hrc
      cases hrc
    · rw [List.mem_singleton.mp q9, hen] at hrc
      cases hrc
  · intro q9
    rcases List.mem_cons.mp q9 with q9 | q9
    · exact n2 q9.symm
    · exact n3 (List.mem_singleton.mp q9).symm
  · rw [jj_up_n n1]
    exact jj_up_s
end PT2
