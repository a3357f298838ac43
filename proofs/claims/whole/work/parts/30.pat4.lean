/-! The class's Pattern: ordered -/
section PT5
variable {l : Launch} {D : va_G} {aC : Nat → ClassId} {base : Nat} {h : jjHp} {pt tx txb st en : Nat} {t : List Nat} {Sf Ef : Nat → Int32} {dm op : Int32} {fm : Value}
theorem pt_at.off {z b : Nat} (hp : pt_at aC h pt tx txb st en t Sf Ef dm op fm) (hz : h z = none) (hb : h b = none) : pt_off pt tx txb st en [z, b] := by
  obtain ⟨ho, ⟨_, _, _, h1, h2, -⟩, hst, hen, -⟩ := hp
  have key : ∀ (c : Nat) (e : va_E), h c = some e → c ∉ [z, b] := fun c e hc q => by
    rcases List.mem_cons.mp q with q | q
    · rw [q, hz] at hc
      cases hc
    · rw [List.mem_singleton.mp q, hb] at hc
      cases hc
  exact ⟨key _ _ ho, key _ _ h1, key _ _ h2, key _ _ hst, key _ _ hen⟩
theorem jj_fr_new {h1 h2 : jjHp} {z b : Nat} (hf : jj_fr [] h h1) (hz : h z = none) (hb : h b = none) (hf2 : jj_fr [z, b] h1 h2) : jj_fr [] h h2 := fun c e _ hc => hf2 c e (fun q => by
  rcases List.mem_cons.mp q with q | q
  · rw [q, hz] at hc
    cases hc
  · rw [List.mem_singleton.mp q, hb] at hc
    cases hc) (hf c e List.not_mem_nil hc)
theorem jj_new_none {h1 : jjHp} {b b1 : Nat} (hf : jj_fr [] h h1) (hb : h b = none) (hb1 : b1 = b ∨ h1 b1 = none) : h b1 = none := by
  rcases hb1 with rfl | hb1
  · exact hb
  · cases hv : h b1 with
    | none => rfl
    | some e =>
      have := hf b1 e List.not_mem_nil hv
      rw [hb1] at this
      cases this
set_option maxHeartbeats 4000000 in
theorem pt_ordered {d : Nat} {P : Nat → Option Nat} {ob : Bool} (hp : pt_at aC h pt tx txb st en t Sf Ef (nI d) (jb_I ob) fm) (hP : px_s t Sf Ef P) (hV : px_V t P) (hd : d < t.length) (hB : (px_form t d P ob).length ≤ 60) : jj_Ct l D aC base yn_PT_ordered yb_PT_ordered 4 (some (.object "java/lang/String")) 7 66 9300 [.ref pt] h (fun r h' => ∃ z q, r = some (.ref z) ∧ h z = none ∧ h q = none ∧ kx_ST aC h' z q (px_form t d P ob) ∧ jj_fr [] h h') := by
  have hlen : t.length ≤ 60 := hp.2.2.2.2.2.2.2
  have hB1 : (d + 1) + (px_ord t P 26).length + (px_tail (px_ord t P 26) ob).length ≤ 60 := by
    have := hB
    unfold px_form at this
    rw [List.length_append, List.length_append, px_seg_len (by omega)] at this
    omega
  refine jj_start (tb := tb_PT_ordered) (by decide) tg_PT_ordered (Nat.le_of_ble_eq_true rfl) ?_
  intro p0 e s m0 args below meth cc C
  refine jj_new C rfl nw_PT_71 (Nat.le_of_ble_eq_true rfl) (Nat.le_of_ble_eq_true rfl) (fun z hz => ?_)
  refine jj_go C 1 rfl ?_
  refine jj_callI C rfl ml_PT_73 wd_34 rfl (kx_SB_init jj_up_s) (rest := [.ref z]) rfl rfl ⟨Nat.le_of_ble_eq_true rfl, Nat.le_of_ble_eq_true rfl⟩ (Nat.le_of_ble_eq_true rfl) (Nat.le_of_ble_eq_true rfl) (Nat.le_of_ble_eq_true rfl) ?_
  rintro r h1 ⟨rfl, b, hb, rfl⟩
  have hzb : z ≠ b := jj_ne hb jj_up_s
  have hb0 : h b = none := by
    rw [jj_up_n (Ne.symm hzb)] at hb
    exact hb
  have hs1 : kx_SB aC (jj_up (jj_up (jj_up h z (.inr (11, [.null, .int 0, .int 0, .int 0]))) b (kx_ba aC 16 (fun _ => 0))) z (kx_sb b 0 0)) z b 16 [] := ⟨0, fun _ => 0, jj_up_s, (jj_up_n (Ne.symm hzb)).trans jj_up_s, kx_tx_nil, sb_fit0, Nat.zero_le _, by decide⟩
  have hf1 : jj_fr [] h (jj_up (jj_up (jj_up h z (.inr (11, [.null, .int 0, .int 0, .int 0]))) b (kx_ba aC 16 (fun _ => 0))) z (kx_sb b 0 0)) := ((jj_fr.rf.up (Or.inr hz)).up (Or.inr hb0)).up (Or.inr hz)
  generalize (jj_up (jj_up (jj_up h z (.inr (11, [.null, .int 0, .int 0, .int 0]))) b (kx_ba aC 16 (fun _ => 0))) z (kx_sb b 0 0)) = h1 at hs1 hf1 ⊢
  have hp1 : pt_at aC h1 pt tx txb st en t Sf Ef (nI d) (jb_I ob) fm := hp.keep2 hf1 ⟨List.not_mem_nil, List.not_mem_nil, List.not_mem_nil, List.not_mem_nil, List.not_mem_nil⟩
  have ho1 := hp1.1
  refine jj_go C 4 rfl ?_
  refine jj_getf C rfl fl_PT_18 ho1 rfl ?_
  refine jj_go C 2 rfl ?_
  refine jj_top (nI_1 d) ?_
  refine jj_go C 1 rfl ?_
  have hcp := pt_copy (l := l) (D := D) (base := base) (p := 0) (n := d + 1) hp1 hs1 (hp.off hz hb0) (by omega) (by simp; omega)
  rw [Nat.zero_add, List.nil_append] at hcp
  refine jj_callV C rfl ml_PT_74 wd_405 ho1 rfl se_PT_PT_copy (As := [.int 0, .int (nI (d + 1)), .ref z]) hcp (rest := []) rfl rfl ⟨Nat.le_refl _, Nat.le_of_ble_eq_true rfl⟩ (show 0 + 1 + 1 + (d + 1) ≤ 66 by omega) (show 0 + 4 + 16 + 142 * (d + 1) ≤ 9300 by omega) (Nat.zero_le _) ?_
  rintro r h2 ⟨rfl, b2, m2, hs2, hb2, hf2⟩
  have hf2' := jj_fr_new hf1 hz hb0 hf2
  have hb2' := jj_new_none hf1 hb0 hb2
  obtain ⟨fo2, hro2⟩ := hs2.recv
  refine jj_go C 1 rfl ?_
  refine jj_callV C rfl ml_PT_78 wd_138 hro2 rfl se_SB_SB_length (kt_SB_length hs2) (rest := []) rfl rfl ⟨Nat.le_of_ble_eq_true rfl, Nat.le_of_ble_eq_true rfl⟩ (show 0 + 1 + 1 + (d + 1) + 0 ≤ 66 by omega) (show 0 + 4 + 16 + 142 * (d + 1) + 0 ≤ 9300 by omega) (Nat.zero_le _) ?_
  rintro q9 h9 ⟨rfl, hh9⟩
  rw [hh9]
  rw [px_seg_len (by omega), Nat.sub_zero]
  -- the end
  have fin : ∀ (h3 : jjHp) (b3 m3 kc ks : Nat) (lc : jjLoc), jj_get lc 1 = some (.ref z) → kx_SB aC h3 z b3 m3 (px_form t d P ob) → jj_fr [] h h3 → kc + 2 ≤ 66 → ks + 146 ≤ 9300 →
      jj_J p0 l e (jj_rm 7 66 9300) s m0 args below meth cc D base 4 (MQ below (jj_Q D base (fun r h' => ∃ z q, r = some (.ref z) ∧ h z = none ∧ h q = none ∧ kx_ST aC h' z q (px_form t d P ob) ∧ jj_fr [] h h')) args s 66 9300 (jj_A base)) 91 lc [] h3 kc ks := by
    intro h3 b3 m3 kc ks lc hlc hs3 hf3 hkc hks
    obtain ⟨fo3, hro3⟩ := hs3.recv
    refine jj_go C (pc' := 92) (lc' := lc) (st' := [.ref z]) 1 ?_ ?_
    · show (match (match jj_get lc 1 with | some (.ref x) => some (92, lc, Value.ref x :: []) | some .null => some (92, lc, Value.null :: []) | _ => none) with | some q' => jj_run tb_PT_ordered 0 q' | none => none) = _
      rw [hlc]
      rfl
    refine jj_callV C rfl ml_PT_87 wd_252 hro3 rfl se_SB_SB_toString (kt_SB_toString hs3) (rest := []) rfl rfl ⟨Nat.le_of_ble_eq_true rfl, Nat.le_of_ble_eq_true rfl⟩ hkc hks (Nat.zero_le _) ?_
    rintro r h4 ⟨z4, q4, rfl, hz4, hq4, hst4, hf4⟩
    refine jj_aret C rfl rfl (Or.inl ⟨_, rfl⟩) (Or.inr ⟨_, rfl⟩) hkc hks ⟨z4, q4, rfl, jj_new_none (b := z) hf3 hz (Or.inr hz4), jj_new_none (b := z) hf3 hz (Or.inr hq4), hst4, hf3.tr hf4⟩
  have loop : ∀ (k j : Nat) (v : Int32) (h3 : jjHp) (b3 m3 kc ks : Nat), v = nI j → j + k = 26 → kx_SB aC h3 z b3 m3 (px_seg t 0 (d + 1) ++ px_ord t P j) → h b3 = none → jj_fr [] h h3 → kc + (if px_ord t P j = [] then 1 else 0) ≤ 4 + (d + 1) + (px_ord t P j).length → ks ≤ 20 + 142 * kc →
      jj_J p0 l e (jj_rm 7 66 9300) s m0 args below meth cc D base 4 (MQ below (jj_Q D base (fun r h' => ∃ z q, r = some (.ref z) ∧ h z = none ∧ h q = none ∧ kx_ST aC h' z q (px_form t d P ob) ∧ jj_fr [] h h')) args s 66 9300 (jj_A base)) 27 [(0, .ref pt), (1, .ref z), (2, .int (nI (d + 1))), (3, .int v)] [] h3 kc ks := by
    intro k
    induction k with
    | zero =>
      intro j v h3 b3 m3 kc ks hv hk hs3 hb3 hf3 hkc hks
      have hj : j = 26 := by omega
      subst hj
      have hp3 : pt_at aC h3 pt tx txb st en t Sf Ef (nI d) (jb_I ob) fm := hp.keep2 hf3 ⟨List.not_mem_nil, List.not_mem_nil, List.not_mem_nil, List.not_mem_nil, List.not_mem_nil⟩
      refine jj_go C 2 rfl ?_
      refine jj_if C rfl (fun _ => ?_) (fun z9 => absurd (by rw [hv]; decide) z9)
      refine jj_go C 1 rfl ?_
      refine jj_getf C rfl fl_PT_22 hp3.1 rfl ?_
      rcases jb_cases ob with ⟨rfl, o2⟩ | ⟨rfl, o2⟩
      · refine jj_if C rfl (fun z9 => absurd (o2.symm.trans z9) (by decide)) (fun _ => ?_)
        have hul : (px_seg t 0 (d + 1) ++ px_ord t P 26).length = (d + 1) + (px_ord t P 26).length := by
          rw [List.length_append, px_seg_len (by omega)]
          omega
        refine jj_go C 2 rfl ?_
        have hB2 : 1 ≤ (px_tail (px_ord t P 26) true).length ∧ (px_ord t P 26 ≠ [] → (px_tail (px_ord t P 26) true).length = 2) := by
          unfold px_tail
          by_cases hq : px_ord t P 26 = []
          · rw [if_pos rfl, if_pos hq]
            exact ⟨by decide, fun q9 => absurd hq q9⟩
          · rw [if_pos rfl, if_neg hq]
            exact ⟨by decide, fun _ => rfl⟩
        have hkc2 : kc + 4 ≤ 66 := by
          by_cases hq : px_ord t P 26 = []
          · rw [if_pos hq] at hkc
            rw [hq] at hkc hB1 hB2
            simp only [List.length_nil] at hkc hB1
            omega
          · rw [if_neg hq] at hkc
            have := hB2.2 hq
            omega
        refine jj_callS C rfl ml_PT_79 wd_410 (pt_separate (ls := d + 1) hs3 (by omega) (by omega)) (rest := []) rfl rfl ⟨Nat.le_of_ble_eq_true rfl, Nat.le_of_ble_eq_true rfl⟩ (show kc + 1 ≤ 66 by omega) (show ks + 142 ≤ 9300 by omega) (Nat.zero_le _) ?_
        rintro r h4 ⟨rfl, b4, m4, hs4, hb4, hf4⟩
        have hf4' := jj_fr_new hf3 hz hb3 hf4
        have hb4' := jj_new_none hf3 hb3 hb4
        obtain ⟨fo4, hro4⟩ := hs4.recv
        refine jj_go C 2 rfl ?_
        refine jj_callV C rfl ml_PT_83 wd_145 hro4 rfl se_SB_SB_append (As := [.int 42]) (kt_SB_append (k := 42) hs4 (by rw [List.length_append, hul]; split <;> simp <;> omega) (by decide)) (rest := []) rfl rfl ⟨Nat.le_of_ble_eq_true rfl, Nat.le_of_ble_eq_true rfl⟩ (show kc + 1 + 1 ≤ 66 by omega) (show ks + 142 + 142 ≤ 9300 by omega) (Nat.zero_le _) ?_
        rintro r h5 ⟨rfl, b5, m5, hs5, hb5, hf5⟩
        have hf5' := jj_fr_new hf4' hz hb4' hf5
        refine jj_go C 1 rfl ?_
        refine fin h5 b5 m5 _ _ _ rfl ?_ hf5' (show kc + 1 + 1 + 2 ≤ 66 by omega) (show ks + 142 + 142 + 146 ≤ 9300 by omega)
        have e1 : (if d + 1 < (px_seg t 0 (d + 1) ++ px_ord t P 26).length then [44] else []) ++ [42] = px_tail (px_ord t P 26) true := by
          unfold px_tail
          rw [hul, if_pos rfl]
          by_cases hq : px_ord t P 26 = []
          · rw [if_pos hq, hq, if_neg (by simp)]
            rfl
          · have : 0 < (px_ord t P 26).length := List.length_pos_iff.mpr hq
            rw [if_neg hq, if_pos (by omega)]
            rfl
        rw [List.append_assoc, e1, List.append_assoc] at hs5
        exact hs5
      · refine jj_if C rfl (fun _ => ?_) (fun z9 => absurd o2 z9)
        refine fin h3 b3 m3 _ _ _ rfl ?_ hf3 (by omega) (by omega)
        have : px_tail (px_ord t P 26) false = [] := rfl
        unfold px_form
        rw [this, List.append_nil]
        exact hs3
    | succ k ih =>
      intro j v h3 b3 m3 kc ks hv hk hs3 hb3 hf3 hkc hks
      have hp3 : pt_at aC h3 pt tx txb st en t Sf Ef (nI d) (jb_I ob) fm := hp.keep2 hf3 ⟨List.not_mem_nil, List.not_mem_nil, List.not_mem_nil, List.not_mem_nil, List.not_mem_nil⟩
      have hp3' := hp3
      obtain ⟨ho3, hst3, hsf3, hef3, -⟩ := hp3'
      have hle : (px_ord t P (j + 1)).length ≤ (px_ord t P 26).length := px_ord_26 (by omega)
      have hle0 : (px_ord t P j).length ≤ (px_ord t P 26).length := px_ord_26 (by omega)
      have hul : (px_seg t 0 (d + 1) ++ px_ord t P j).length = (d + 1) + (px_ord t P j).length := by
        rw [List.length_append, px_seg_len (by omega)]
        omega
      refine jj_go C 2 rfl ?_
      refine jj_if C rfl (fun z9 => absurd z9 (by rw [hv]; exact nI_ge (b := 26) (by omega) (by decide))) (fun _ => ?_)
      refine jj_go C 1 rfl ?_
      refine jj_getf C rfl fl_PT_9 ho3 rfl ?_
      refine jj_go C 1 rfl ?_
      refine jj_iald C (j := j) rfl hsf3 hv (by omega) (by decide) ?_
      rcases hP j (by omega) with ⟨w1, w2⟩ | ⟨p, w1, w3, w2, w4⟩
      · rw [w2]
        refine jj_if C rfl (fun _ => ?_) (fun z9 => absurd rfl z9)
        refine jj_go C 2 rfl ?_
        have e1 := px_ord_none (t := t) w1
        exact ih (j + 1) (v + 1) h3 b3 m3 kc ks (by rw [hv, nI_1]) (by omega) (by rw [e1]; exact hs3) hb3 hf3 (by rw [e1]; exact hkc) hks
      · obtain ⟨v1, v2⟩ := hV j p (by omega) w1
        have e1 := px_ord_some (t := t) w1
        generalize hE : px_re t true (p + 2) = E at v1 v2 w4 e1
        rw [w2]
        refine jj_if C rfl (fun z9 => absurd z9 (nI_ne0 (by omega) (by omega))) (fun _ => ?_)
        have hlen1 : (px_ord t P (j + 1)).length = (px_ord t P j).length + ((if px_ord t P j = [] then 0 else 1) + (E - p)) := by
          rw [e1, List.length_append, List.length_append, px_seg_len v2]
          congr 2
          split <;> rfl
        have hne1 : px_ord t P (j + 1) ≠ [] := fun q9 => by
          rw [q9] at hlen1
          simp only [List.length_nil] at hlen1
          omega
        have hkb : kc + 1 + (E - p) ≤ 4 + (d + 1) + (px_ord t P (j + 1)).length := by
          rw [hlen1]
          by_cases hq : px_ord t P j = []
          · rw [if_pos hq] at hkc ⊢
            omega
          · rw [if_neg hq] at hkc ⊢
            omega
        refine jj_go C 2 rfl ?_
        refine jj_callS C rfl ml_PT_79 wd_410 (pt_separate (ls := d + 1) hs3 (by omega) (by omega)) (rest := []) rfl rfl ⟨Nat.le_of_ble_eq_true rfl, Nat.le_of_ble_eq_true rfl⟩ (show kc + 1 ≤ 66 by omega) (show ks + 142 ≤ 9300 by omega) (Nat.zero_le _) ?_
        rintro r h4 ⟨rfl, b4, m4, hs4, hb4, hf4⟩
        have hf4' := jj_fr_new hf3 hz hb3 hf4
        have hb4' := jj_new_none hf3 hb3 hb4
        have hp4 : pt_at aC h4 pt tx txb st en t Sf Ef (nI d) (jb_I ob) fm := hp.keep2 hf4' ⟨List.not_mem_nil, List.not_mem_nil, List.not_mem_nil, List.not_mem_nil, List.not_mem_nil⟩
        have hp4' := hp4
        obtain ⟨ho4, hst4, hsf4, hef4, -⟩ := hp4'
        have e2 : (px_seg t 0 (d + 1) ++ px_ord t P j) ++ (if d + 1 < (px_seg t 0 (d + 1) ++ px_ord t P j).length then [44] else []) = px_seg t 0 (d + 1) ++ (px_ord t P j ++ (if px_ord t P j = [] then [] else [44])) := by
          rw [List.append_assoc]
          congr 2
          rw [hul]
          by_cases hq : px_ord t P j = []
          · rw [if_pos hq, hq, if_neg (by simp)]
          · have : 0 < (px_ord t P j).length := List.length_pos_iff.mpr hq
            rw [if_neg hq, if_pos (by omega)]
        rw [e2] at hs4
        refine jj_go C 2 rfl ?_
        refine jj_getf C rfl fl_PT_9 ho4 rfl ?_
        refine jj_go C 1 rfl ?_
        refine jj_iald C (j := j) rfl hsf4 hv (by omega) (by decide) ?_
        refine jj_top w2 ?_
        refine jj_go C 2 rfl ?_
        refine jj_top (show nI (p + 2) - 2 = nI p from pk_sub (a := p + 2) (b := 2) (by omega)) ?_
        refine jj_go C 1 rfl ?_
        refine jj_getf C rfl fl_PT_15 ho4 rfl ?_
        refine jj_go C 1 rfl ?_
        refine jj_iald C (j := j) rfl hef4 hv (by omega) (by decide) ?_
        refine jj_top w4 ?_
        refine jj_go C 1 rfl ?_
        have hcp := pt_copy (l := l) (D := D) (base := base) (p := p) (n := E - p) hp4 hs4 (hp.off hz hb4') (by omega) (by
          rw [List.length_append, List.length_append, px_seg_len (by omega)]
          split <;> simp <;> omega)
        rw [show p + (E - p) = E by omega] at hcp
        refine jj_callV C rfl ml_PT_74 wd_405 ho4 rfl se_PT_PT_copy (As := [.int (nI p), .int (nI E), .ref z]) hcp (rest := []) rfl rfl ⟨Nat.le_refl _, Nat.le_of_ble_eq_true rfl⟩ (show kc + 1 + (E - p) ≤ 66 by omega) (show ks + 142 + 142 * (E - p) ≤ 9300 by omega) (Nat.zero_le _) ?_
        rintro r h5 ⟨rfl, b5, m5, hs5, hb5, hf5⟩
        have hf5' := jj_fr_new hf4' hz hb4' hf5
        have hb5' := jj_new_none hf4' hb4' hb5
        refine jj_go C 2 rfl ?_
        rw [List.append_assoc, List.append_assoc, ← e1] at hs5
        refine ih (j + 1) (v + 1) h5 b5 m5 _ _ (by rw [hv, nI_1]) (by omega) hs5 hb5' hf5' ?_ (show ks + 142 + 142 * (E - p) ≤ 20 + 142 * (kc + 1 + (E - p)) by omega)
        rw [if_neg hne1]
        exact hkb
  refine jj_go C 3 rfl ?_
  refine loop 26 0 _ h2 b2 m2 _ _ nI_0.symm (by omega) ?_ hb2' hf2' ?_ (show 0 + 4 + 16 + 142 * (d + 1) + 0 ≤ 20 + 142 * (0 + 1 + 1 + (d + 1) + 0) by omega)
  · show kx_SB aC h2 z b2 m2 (px_seg t 0 (d + 1) ++ [])
    rw [List.append_nil]
    exact hs2
  · show 0 + 1 + 1 + (d + 1) + 0 + 1 ≤ 4 + (d + 1) + 0
    omega
end PT5
