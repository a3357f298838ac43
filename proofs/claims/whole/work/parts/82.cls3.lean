/-! The class: patterns whose letters are not the buffer's -/
/-- a Pattern whose letters don't lie in b0 -/
def pt_okb (aC : Nat → ClassId) (h : jjHp) (pt : Nat) (t : List Nat) (b0 r0 : Nat) : Prop := ∃ tx txb st en Sf Ef fm fmb, pt_at aC h pt tx txb st en t Sf Ef (nI (px_re t true 0)) (jb_I (px_pl t).2.2) (.ref fm) ∧ px_s t Sf Ef (px_pl t).2.1 ∧ kx_ST aC h fm fmb (px_fo t) ∧ txb ≠ b0 ∧ fmb ≠ b0 ∧ st ≠ r0 ∧ en ≠ r0
theorem pt_okb.ok {aC : Nat → ClassId} {h : jjHp} {pt : Nat} {t : List Nat} {b0 r0 : Nat} (hp : pt_okb aC h pt t b0 r0) : pt_ok aC h pt t := by
  obtain ⟨tx, txb, st, en, Sf, Ef, fm, fmb, p1, p2, p3, -⟩ := hp
  exact ⟨tx, txb, st, en, Sf, Ef, fm, fmb, p1, p2, p3⟩
section CB
variable {l : Launch} {D : va_G} {aC : Nat → ClassId} {base : Nat} {h : jjHp} {tx txb : Nat} {t : List Nat}
theorem bs_patternIn2 {b0 r0 : Nat} {e0 er : va_E} (hs : kx_ST aC h tx txb t) (hlen : t.length ≤ 60) (hb0 : h b0 = some e0) (hr0 : h r0 = some er) (htb : txb ≠ b0) : jj_Ct l D aC base yn_BS_patternIn yb_BS_patternIn 2 (some (.object "BeanServer$Pattern")) 9 69 9358 [.ref tx] h (fun r h' => jj_fr [] h h' ∧ ((px_pa t = true ∧ ∃ pt, r = some (.ref pt) ∧ h pt = none ∧ pt_okb aC h' pt t b0 r0) ∨ (px_pa t = false ∧ r = some .null))) := by
  refine jj_start (tb := tb_BS_patternIn) (by decide) tg_BS_patternIn (Nat.le_of_ble_eq_true rfl) ?_
  intro p e s m args below meth c C
  refine jj_new C rfl nw_BS_71 (Nat.le_of_ble_eq_true rfl) (Nat.le_of_ble_eq_true rfl) (fun x hx => ?_)
  refine jj_go C 2 rfl ?_
  refine jj_callI C rfl ml_BS_211 wd_331 rfl (pt_init (tx := tx) jj_up_s) (rest := [.ref x]) rfl rfl ⟨Nat.le_of_ble_eq_true rfl, Nat.le_of_ble_eq_true rfl⟩ (Nat.le_of_ble_eq_true rfl) (Nat.le_of_ble_eq_true rfl) (Nat.le_of_ble_eq_true rfl) ?_
  rintro r h1 ⟨rfl, st1, en1, i1, i2, i3, i4, i5⟩
  obtain ⟨hs1, hz, f, ho, hv, htx⟩ := hs
  have ntx : tx ≠ x := jj_ne hx ho
  have ntb : txb ≠ x := jj_ne hx hv
  obtain ⟨e1, e2⟩ := i2 (2, en1, .inl (aC 0, 26, .inl (fun _ => 0))) List.mem_cons_self
  obtain ⟨s1, s2⟩ := i2 (1, st1, .inl (aC 0, 26, .inl (fun _ => 0))) (List.mem_cons_of_mem _ List.mem_cons_self)
  dsimp only at e1 e2 s1 s2
  have hfr : jj_fr [] h h1 := fun c e _ hc => i4 c e (jj_ne hx hc) (jj_up_f hx hc)
  have hne : st1 ≠ en1 := fun q => by
    have := (List.nodup_cons.mp i3).1
    exact this (by rw [← q]; exact List.mem_cons_self)
  have hp : pt_at aC h1 x tx txb st1 en1 t (fun _ => 0) (fun _ => 0) 0 0 (.ref (aC 100)) := ⟨i1, ⟨hs1, hz, f, hfr _ _ List.not_mem_nil ho, hfr _ _ List.not_mem_nil hv, htx⟩, s1, e1, hne, (fun q => by rw [q, jj_up_f hx hv] at s2; cases s2), (fun q => by rw [q, jj_up_f hx hv] at e2; cases e2), hlen⟩
  have hst0 : h st1 = none := by
    cases hq : h st1 with
    | none => rfl
    | some e => rw [jj_up_f hx hq] at s2; cases s2
  have hen0 : h en1 = none := by
    cases hq : h en1 with
    | none => rfl
    | some e => rw [jj_up_f hx hq] at e2; cases e2
  refine jj_go C 2 rfl ?_
  refine jj_callV C rfl ml_BS_212 wd_356 i1 rfl (jj_SEL.mk wd_357) (pt_parse hp) (rest := []) rfl rfl ⟨Nat.le_refl _, Nat.le_of_ble_eq_true rfl⟩ (Nat.le_refl _) (Nat.le_refl _) (Nat.zero_le _) ?_
  rintro r h2 ⟨rfl, hf2, -, hok⟩
  have hfr2 : jj_fr [] h h2 := fun c e _ hc => hf2 c e (fun q => by
    rcases List.mem_cons.mp q with q | q
    · rw [q, hx] at hc
      cases hc
    · rcases List.mem_cons.mp q with q | q
      · rw [q, hst0] at hc
        cases hc
      · rw [List.mem_singleton.mp q, hen0] at hc
        cases hc) (hfr c e List.not_mem_nil hc)
  rcases jb_cases (px_pa t) with ⟨b1, b2⟩ | ⟨b1, b2⟩
  · rw [b2]
    obtain ⟨Sf, Ef, fm, fmb, g1, g2, g3, -, g5⟩ := hok b1
    refine jj_if C rfl (fun z => absurd z (by decide)) (fun _ => ?_)
    refine jj_go C 2 rfl ?_
    exact jj_aret C rfl rfl (Or.inl ⟨_, rfl⟩) (Or.inr ⟨_, rfl⟩) (Nat.le_refl _) (Nat.le_refl _) ⟨hfr2, Or.inl ⟨b1, x, rfl, hx, tx, txb, st1, en1, Sf, Ef, fm, fmb, g1, g2, g3, htb, (fun q => by rw [q, hfr b0 _ List.not_mem_nil hb0] at g5; cases g5), (fun q => by rw [q, hr0] at hst0; cases hst0), (fun q => by rw [q, hr0] at hen0; cases hen0)⟩⟩
  · rw [b2]
    refine jj_if C rfl (fun _ => ?_) (fun z => absurd rfl z)
    refine jj_go C 1 rfl ?_
    exact jj_aret C rfl rfl (Or.inl ⟨_, rfl⟩) (Or.inl rfl) (Nat.le_refl _) (Nat.le_refl _) ⟨hfr2, Or.inr ⟨b1, rfl⟩⟩
variable {x sb b n0 : Nat} {fs : List Value}
theorem bs_takenName2 {r0 : Nat} {er : va_E} (hr0 : h r0 = some er) (nrs : r0 ≠ sb) (hx : h x = some (.inr (0, fs))) (h0 : fs[0]? = some (.ref sb)) (hs : kx_SB aC h sb b n0 t) (hlen : t.length ≤ 60) : jj_Ct l D aC base yn_BS_takenName yb_BS_takenName 2 (some (.object "BeanServer$Pattern")) 10 71 9504 [.ref x] h (fun r h' => jj_fr [sb] h h' ∧ kx_SB aC h' sb b n0 [] ∧ ((px_rd t false = true ∧ ∃ pt, r = some (.ref pt) ∧ h pt = none ∧ pt_okb aC h' pt t b r0) ∨ (px_rd t false = false ∧ r = some .null))) := by
  refine jj_start (tb := tb_BS_takenName) (by decide) tg_BS_takenName (Nat.le_of_ble_eq_true rfl) ?_
  intro p e s m args below meth cc C
  obtain ⟨fsb, hsb⟩ := hs.recv
  refine jj_go C 1 rfl ?_
  refine jj_callV C rfl ml_BS_104 wd_249 hx rfl se_BS_BS_taken (bs_taken hx h0 hs) (rest := []) rfl rfl ⟨Nat.le_of_ble_eq_true rfl, Nat.le_of_ble_eq_true rfl⟩ (Nat.le_of_ble_eq_true rfl) (Nat.le_of_ble_eq_true rfl) (Nat.le_of_ble_eq_true rfl) ?_
  rintro r h1 ⟨z, q, rfl, hz, hq, hst, hs1, hf1⟩
  have hb1 : ∃ e1, h1 b = some e1 := by
    obtain ⟨_, _, -, h3, -⟩ := hs1
    exact ⟨_, h3⟩
  obtain ⟨eb1, hb1⟩ := hb1
  have nqb : q ≠ b := by
    obtain ⟨_, _, -, h3, -⟩ := hs
    exact fun q9 => by rw [q9, h3] at hq; cases hq
  refine jj_callS C rfl ml_BS_143 wd_326 (bs_patternIn2 (b0 := b) (r0 := r0) hst hlen hb1 (hf1 r0 _ (fun q9 => nrs (List.mem_singleton.mp q9)) hr0) nqb) (rest := []) rfl rfl ⟨Nat.le_of_ble_eq_true rfl, Nat.le_of_ble_eq_true rfl⟩ (Nat.le_of_ble_eq_true rfl) (Nat.le_of_ble_eq_true rfl) (Nat.le_of_ble_eq_true rfl) ?_
  rintro r h2 ⟨hf2, hr⟩
  have hs2 := hs1.keep hf2 List.not_mem_nil List.not_mem_nil
  have hf3 : jj_fr [sb] h h2 := hf1.tr (hf2.mono (fun a ha => absurd ha List.not_mem_nil))
  have no : px_rd t false = false → ∀ v : Value, jj_J p l e (jj_rm 10 71 9504) s m args below meth cc D base 2 (MQ below (jj_Q D base (fun r h' => jj_fr [sb] h h' ∧ kx_SB aC h' sb b n0 [] ∧ ((px_rd t false = true ∧ ∃ pt, r = some (.ref pt) ∧ h pt = none ∧ pt_okb aC h' pt t b r0) ∨ (px_rd t false = false ∧ r = some .null)))) args s 71 9504 (jj_A base)) 23 [(0, .ref x), (1, v)] [] h2 71 9504 := by
    intro hq v
    refine jj_go C 1 rfl ?_
    exact jj_aret C rfl rfl (Or.inl ⟨_, rfl⟩) (Or.inl rfl) (Nat.le_of_ble_eq_true rfl) (Nat.le_of_ble_eq_true rfl) ⟨hf3, hs2, Or.inr ⟨hq, rfl⟩⟩
  rcases hr with ⟨hpa, pt, rfl, hpt, hok⟩ | ⟨hpa, rfl⟩
  · have hpt0 : h pt = none := by
      cases hc : h pt with
      | none => rfl
      | some e =>
        by_cases hq9 : pt = sb
        · obtain ⟨fs9, h9⟩ := hs1.recv
          rw [hq9, h9] at hpt
          cases hpt
        · have := hf1 pt e (fun q9 => hq9 (List.mem_singleton.mp q9)) hc
          rw [hpt] at this
          cases this
    have hok' := hok
    obtain ⟨tx, txb, st, en, Sf, Ef, fm, fmb, p1, p2, p3, -⟩ := hok
    refine jj_go C 4 rfl ?_
    refine jj_callV C rfl ml_BS_208 wd_414 p1.1 rfl se_PT_PT_isName (pt_isName p1) (rest := []) rfl rfl ⟨Nat.le_of_ble_eq_true rfl, Nat.le_of_ble_eq_true rfl⟩ (Nat.le_of_ble_eq_true rfl) (Nat.le_of_ble_eq_true rfl) (Nat.le_of_ble_eq_true rfl) ?_
    rintro q9 h9 ⟨rfl, hh9⟩
    rw [hh9]
    rcases jb_cases (px_nm t) with ⟨e1, e2⟩ | ⟨e1, e2⟩
    · rw [e2]
      refine jj_if C rfl (fun z => absurd z (by decide)) (fun _ => ?_)
      refine jj_go C 2 rfl ?_
      exact jj_aret C rfl rfl (Or.inl ⟨_, rfl⟩) (Or.inr ⟨_, rfl⟩) (Nat.le_of_ble_eq_true rfl) (Nat.le_of_ble_eq_true rfl) ⟨hf3, hs2, Or.inl ⟨by rw [px_rd_false, hpa, e1]; rfl, pt, rfl, hpt0, hok'⟩⟩
    · rw [e2]
      exact jj_if C rfl (fun _ => no (by rw [px_rd_false, e1, Bool.and_false]) _) (fun z => absurd rfl z)
  · refine jj_go C 3 rfl ?_
    exact no (by rw [px_rd_false, hpa]; rfl) _
end CB
