/-! The class: isAttribute, taken, takenName, write -/
section CA
variable {l : Launch} {D : va_G} {aC : Nat → ClassId} {base : Nat} {h : jjHp}
theorem bs_isAttribute {x : Int32} : jj_Ct l D aC base yn_BS_isAttribute yb_BS_isAttribute 1 (some .boolean) 0 0 0 [.int x] h (fun q h' => q = some (.int (jb_I (px_at 5 (fun _ => true) x))) ∧ h' = h) := by
  refine jj_start (tb := tb_BS_isAttribute) (by decide) tg_BS_isAttribute (Nat.le_of_ble_eq_true rfl) ?_
  intro p e s m args below meth cc C
  refine jj_go C 1 rfl ?_
  refine jj_if C rfl (fun z => ?_) (fun z => ?_)
  · refine jj_go C 1 rfl ?_
    exact jj_iret C rfl rfl rfl (Nat.le_of_ble_eq_true rfl) (Nat.le_of_ble_eq_true rfl) ⟨by rw [px_at_neg z]; rfl, rfl⟩
  obtain ⟨j, hj, rfl⟩ := nI_of z
  refine jj_go C 2 rfl ?_
  refine jj_if C rfl (fun z => ?_) (fun z => ?_)
  · refine jj_go C 1 rfl ?_
    exact jj_iret C rfl rfl rfl (Nat.le_of_ble_eq_true rfl) (Nat.le_of_ble_eq_true rfl) ⟨by rw [px_at_ge (show nI 5 ≤ nI j from z)]; rfl, rfl⟩
  have hlt : j < 5 := Nat.not_le.mp (fun q => z (nI_le q hj))
  rw [px_at_n hlt (by decide)]
  refine jj_go C 2 rfl ?_
  exact jj_iret C rfl rfl rfl (Nat.le_of_ble_eq_true rfl) (Nat.le_of_ble_eq_true rfl) ⟨rfl, rfl⟩
theorem kx_SB.keep {a b m : Nat} {t : List Nat} {S : List Nat} {h' : jjHp} (hs : kx_SB aC h a b m t) (hf : jj_fr S h h') (ha : a ∉ S) (hb : b ∉ S) : kx_SB aC h' a b m t := by
  obtain ⟨ml, f, c1, c2, c3⟩ := hs
  exact ⟨ml, f, hf _ _ ha c1, hf _ _ hb c2, c3⟩
variable {x sb b n0 : Nat} {fs : List Value} {t : List Nat}
theorem bs_taken (hx : h x = some (.inr (0, fs))) (h0 : fs[0]? = some (.ref sb)) (hs : kx_SB aC h sb b n0 t) : jj_Ct l D aC base yn_BS_taken yb_BS_taken 2 (some (.object "java/lang/String")) 6 2 146 [.ref x] h (fun r h' => ∃ z q, r = some (.ref z) ∧ h z = none ∧ h q = none ∧ kx_ST aC h' z q t ∧ kx_SB aC h' sb b n0 [] ∧ jj_fr [sb] h h') := by
  refine jj_start (tb := tb_BS_taken) (by decide) tg_BS_taken (Nat.le_of_ble_eq_true rfl) ?_
  intro p e s m args below meth cc C
  obtain ⟨fsb, hsb⟩ := hs.recv
  refine jj_go C 1 rfl ?_
  refine jj_getf C rfl fl_BS_10 hx h0 ?_
  refine jj_callV C rfl ml_BS_201 wd_252 hsb rfl se_SB_SB_toString (kt_SB_toString hs) (rest := []) rfl rfl ⟨Nat.le_of_ble_eq_true rfl, Nat.le_of_ble_eq_true rfl⟩ (Nat.le_of_ble_eq_true rfl) (Nat.le_of_ble_eq_true rfl) (Nat.le_of_ble_eq_true rfl) ?_
  rintro r h1 ⟨z, q, rfl, hz, hq, hst, hf1⟩
  have hs1 := hs.keep hf1 List.not_mem_nil List.not_mem_nil
  obtain ⟨fsb1, hsb1⟩ := hs1.recv
  refine jj_go C 2 rfl ?_
  refine jj_getf C rfl fl_BS_10 (hf1 _ _ List.not_mem_nil hx) h0 ?_
  refine jj_go C 1 rfl ?_
  refine jj_callV C rfl ml_BS_204 wd_306 hsb1 rfl se_SB_SB_setLength (kt_SB_setLength0 hs1) (rest := []) rfl rfl ⟨Nat.le_of_ble_eq_true rfl, Nat.le_of_ble_eq_true rfl⟩ (Nat.le_of_ble_eq_true rfl) (Nat.le_of_ble_eq_true rfl) (Nat.le_of_ble_eq_true rfl) ?_
  rintro r h2 ⟨rfl, hs2, hf2⟩
  have nz : z ∉ [sb] := fun q9 => by rw [List.mem_singleton.mp q9, hsb] at hz; cases hz
  have nq : q ∉ [sb] := fun q9 => by rw [List.mem_singleton.mp q9, hsb] at hq; cases hq
  refine jj_go C 1 rfl ?_
  exact jj_aret C rfl rfl (Or.inl ⟨_, rfl⟩) (Or.inr ⟨_, rfl⟩) (Nat.le_of_ble_eq_true rfl) (Nat.le_of_ble_eq_true rfl) ⟨z, q, rfl, hz, hq, hst.keep hf2 nz nq, hs2, (hf1.mono (fun a ha => absurd ha List.not_mem_nil)).tr hf2⟩
theorem bs_takenName (hx : h x = some (.inr (0, fs))) (h0 : fs[0]? = some (.ref sb)) (hs : kx_SB aC h sb b n0 t) (hlen : t.length ≤ 60) : jj_Ct l D aC base yn_BS_takenName yb_BS_takenName 2 (some (.object "BeanServer$Pattern")) 10 71 9504 [.ref x] h (fun r h' => jj_fr [sb] h h' ∧ kx_SB aC h' sb b n0 [] ∧ ((px_rd t false = true ∧ ∃ pt, r = some (.ref pt) ∧ h pt = none ∧ pt_ok aC h' pt t) ∨ (px_rd t false = false ∧ r = some .null))) := by
  refine jj_start (tb := tb_BS_takenName) (by decide) tg_BS_takenName (Nat.le_of_ble_eq_true rfl) ?_
  intro p e s m args below meth cc C
  obtain ⟨fsb, hsb⟩ := hs.recv
  refine jj_go C 1 rfl ?_
  refine jj_callV C rfl ml_BS_104 wd_249 hx rfl se_BS_BS_taken (bs_taken hx h0 hs) (rest := []) rfl rfl ⟨Nat.le_of_ble_eq_true rfl, Nat.le_of_ble_eq_true rfl⟩ (Nat.le_of_ble_eq_true rfl) (Nat.le_of_ble_eq_true rfl) (Nat.le_of_ble_eq_true rfl) ?_
  rintro r h1 ⟨z, q, rfl, hz, hq, hst, hs1, hf1⟩
  refine jj_callS C rfl ml_BS_143 wd_326 (bs_patternIn hst hlen) (rest := []) rfl rfl ⟨Nat.le_of_ble_eq_true rfl, Nat.le_of_ble_eq_true rfl⟩ (Nat.le_of_ble_eq_true rfl) (Nat.le_of_ble_eq_true rfl) (Nat.le_of_ble_eq_true rfl) ?_
  rintro r h2 ⟨hf2, hr⟩
  have hs2 := hs1.keep hf2 List.not_mem_nil List.not_mem_nil
  have hf3 : jj_fr [sb] h h2 := hf1.tr (hf2.mono (fun a ha => absurd ha List.not_mem_nil))
  have no : px_rd t false = false → ∀ v : Value, jj_J p l e (jj_rm 10 71 9504) s m args below meth cc D base 2 (MQ below (jj_Q D base (fun r h' => jj_fr [sb] h h' ∧ kx_SB aC h' sb b n0 [] ∧ ((px_rd t false = true ∧ ∃ pt, r = some (.ref pt) ∧ h pt = none ∧ pt_ok aC h' pt t) ∨ (px_rd t false = false ∧ r = some .null)))) args s 71 9504 (jj_A base)) 23 [(0, .ref x), (1, v)] [] h2 71 9504 := by
    intro hq v
    refine jj_go C 1 rfl ?_
    exact jj_aret C rfl rfl (Or.inl ⟨_, rfl⟩) (Or.inl rfl) (Nat.le_of_ble_eq_true rfl) (Nat.le_of_ble_eq_true rfl) ⟨hf3, hs2, Or.inr ⟨hq, rfl⟩⟩
  rcases hr with ⟨hpa, pt, rfl, hpt, hok⟩ | ⟨hpa, rfl⟩
  · have hpt0 : h pt = none := by
      cases hc : h pt with
      | none => rfl
      | some e =>
        by_cases hq9 : pt = sb
        · obtain ⟨fs9, h9⟩ := hs1.recv
          rw [hq9, h9] at hpt
          cases hpt
        · have := hf1 pt e (fun q9 => hq9 (List.mem_singleton.mp q9)) hc
          rw [hpt] at this
          cases this
    have hok' := hok
    obtain ⟨tx, txb, st, en, Sf, Ef, fm, fmb, p1, p2, p3⟩ := hok
    refine jj_go C 4 rfl ?_
    refine jj_callV C rfl ml_BS_208 wd_414 p1.1 rfl se_PT_PT_isName (pt_isName p1) (rest := []) rfl rfl ⟨Nat.le_of_ble_eq_true rfl, Nat.le_of_ble_eq_true rfl⟩ (Nat.le_of_ble_eq_true rfl) (Nat.le_of_ble_eq_true rfl) (Nat.le_of_ble_eq_true rfl) ?_
    rintro q9 h9 ⟨rfl, hh9⟩
    rw [hh9]
    rcases jb_cases (px_nm t) with ⟨e1, e2⟩ | ⟨e1, e2⟩
    · rw [e2]
      refine jj_if C rfl (fun z => absurd z (by decide)) (fun _ => ?_)
      refine jj_go C 2 rfl ?_
      exact jj_aret C rfl rfl (Or.inl ⟨_, rfl⟩) (Or.inr ⟨_, rfl⟩) (Nat.le_of_ble_eq_true rfl) (Nat.le_of_ble_eq_true rfl) ⟨hf3, hs2, Or.inl ⟨by rw [px_rd_false, hpa, e1]; rfl, pt, rfl, hpt0, hok'⟩⟩
    · rw [e2]
      exact jj_if C rfl (fun _ => no (by rw [px_rd_false, e1, Bool.and_false]) _) (fun z => absurd rfl z)
  · refine jj_go C 3 rfl ?_
    exact no (by rw [px_rd_false, hpa]; rfl) _
end CA
