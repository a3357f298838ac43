/-! The class: makers of QueryReader and QueryForm; written -/
section QFC
variable {l : Launch} {D : va_G} {aC : Nat → ClassId} {base : Nat} {h : jjHp} {qf tx txb sb op bb mm : Nat} {t o st : List Nat}
theorem qr_init_n {x : Nat} (ho : h x = some (.inr (5, [.null, .null, .int 0, .int 0, .int 0, .int 0]))) (hs : kx_ST aC h tx txb t) (hl : t.length ≤ 60) : jj_Ct l D aC base yn_QR_init yb_QR_init 3 none 4 0 0 [.ref x, .ref tx, .null] h (fun r h' => r = none ∧ h' = qr_w h x tx .null t 0 false false) := by
  have hne : x ≠ tx ∧ x ≠ txb := by
    obtain ⟨_, _, _, h1, h2, -⟩ := hs
    exact ⟨(fun q => by rw [q, h1] at ho; cases ho), (fun q => by rw [q, h2] at ho; cases ho)⟩
  have hs1 : ∀ e : va_E, kx_ST aC (jj_up h x e) tx txb t := fun e => hs.up hne.1 hne.2
  have hr1 : ∀ e : va_E, ∃ fs, (jj_up h x e) tx = some (.inr (10, fs)) := fun e => (hs1 e).recv
  refine jj_start (tb := tb_QR_init) (by decide) tg_QR_init (Nat.le_of_ble_eq_true rfl) ?_
  intro p e s m args below meth cc C
  refine jj_go C 1 rfl ?_
  refine jj_objI C rfl wd_555 wd_29 wd_30 ⟨(Nat.le_of_ble_eq_true rfl), (Nat.le_of_ble_eq_true rfl)⟩ (Nat.zero_le _) ?_
  refine jj_go C 2 rfl ?_
  refine jj_putf C rfl fl_QR_9 ho rfl rfl (Nat.le_of_ble_eq_true rfl) ?_
  refine jj_eq (h' := jj_up h x (.inr (5, [.null, .null, .int 0, .int 0, .int 0, .int 0]))) rfl rfl rfl rfl ?_
  refine jj_go C 2 rfl ?_
  refine jj_putf C rfl fl_QR_15 jj_up_s rfl rfl (Nat.le_of_ble_eq_true rfl) ?_
  refine jj_eq (h' := jj_up h x (.inr (5, [.null, .null, .int 0, .int 0, .int 0, .int 0]))) rfl rfl rfl (by rw [jj_up_up]; rfl) ?_
  refine jj_go C 2 rfl ?_
  refine jj_putf C rfl fl_QR_19 jj_up_s rfl rfl (Nat.le_of_ble_eq_true rfl) ?_
  refine jj_eq (h' := jj_up h x (.inr (5, [.null, .null, .int 0, .int 0, .int 0, .int 0]))) rfl rfl rfl (by rw [jj_up_up]; rfl) ?_
  refine jj_go C 2 rfl ?_
  refine jj_putF C rfl fp_QR_22 rfl jj_up_s rfl rfl (Nat.le_of_ble_eq_true rfl) ?_
  refine jj_eq (h' := jj_up h x (.inr (5, [.ref tx, .null, .int 0, .int 0, .int 0, .int 0]))) rfl rfl rfl (by rw [jj_up_up]; rfl) ?_
  refine jj_go C 2 rfl ?_
  have put : jj_J p l e (jj_rm 4 0 0) s m args below meth cc D base 3 (MQ below (jj_Q D base (fun r h' => r = none ∧ h' = qr_w h x tx .null t 0 false false)) args s 0 0 (jj_A base)) 29 [(0, .ref x), (1, .ref tx), (2, .null)] [] (jj_up h x (.inr (5, [.ref tx, .null, .int 0, .int 0, .int 0, .int 0]))) 0 0 := by
    have hs2 := hs1 (.inr (5, [.ref tx, .null, .int 0, .int 0, .int 0, .int 0]))
    obtain ⟨fs2, hr2⟩ := hr1 (.inr (5, [.ref tx, .null, .int 0, .int 0, .int 0, .int 0]))
    have hv2 : ∃ hs hz f, (jj_up h x (.inr (5, [.ref tx, .null, .int 0, .int 0, .int 0, .int 0]))) tx = some (kx_st txb hs hz) ∧ (jj_up h x (.inr (5, [.ref tx, .null, .int 0, .int 0, .int 0, .int 0]))) txb = some (kx_ba aC t.length f) := by
      obtain ⟨a1, a2, a3, a4, a5, -⟩ := hs2
      exact ⟨a1, a2, a3, a4, a5⟩
    obtain ⟨b1, b2, b3, b4, b5⟩ := hv2
    have fin : ∀ c : Nat, c = t.getD 0 0 → jj_J p l e (jj_rm 4 0 0) s m args below meth cc D base 3 (MQ below (jj_Q D base (fun r h' => r = none ∧ h' = qr_w h x tx .null t 0 false false)) args s 0 0 (jj_A base)) 46 [(0, .ref x), (1, .ref tx), (2, .null)] [.int (nI c), .ref x] (jj_up h x (.inr (5, [.ref tx, .null, .int 0, .int 0, .int 0, .int 0]))) 0 0 := by
      intro c hc
      have hc128 := hs.lt 0
      rw [← hc] at hc128
      refine jj_putf C rfl fl_QR_40 jj_up_s (congrArg Value.int (ky_char c hc128)) (ky_fitc c hc128) (Nat.le_of_ble_eq_true rfl) ?_
      refine jj_vret C rfl rfl (Nat.le_of_ble_eq_true rfl) (Nat.le_of_ble_eq_true rfl) ⟨rfl, ?_⟩
      rw [jj_up_up]
      unfold qr_w
      rw [hc]
      rfl
    refine jj_go C 2 rfl ?_
    refine jj_callV C rfl ml_QR_30 wd_557 hr2 rfl se_ST_ST_isEmpty (kx_ST_isEmpty b4 b5 (by omega)) (rest := [.ref x]) rfl rfl ⟨Nat.le_of_ble_eq_true rfl, Nat.le_of_ble_eq_true rfl⟩ (Nat.le_of_ble_eq_true rfl) (Nat.le_of_ble_eq_true rfl) (Nat.le_of_ble_eq_true rfl) ?_
    rintro q9 h9 ⟨rfl, hh9⟩
    rw [hh9]
    by_cases h0 : t.length = 0
    · rw [if_pos h0]
      refine jj_if C rfl (fun z => absurd z (by decide)) (fun _ => ?_)
      refine jj_go C 2 rfl ?_
      exact fin 0 (px_getD_ge (by omega)).symm
    · rw [if_neg h0]
      refine jj_if C rfl (fun _ => ?_) (fun z => absurd rfl z)
      refine jj_go C 2 rfl ?_
      refine jj_callV C rfl ml_QR_36 wd_372 hr2 rfl se_ST_ST_charAt (kt_ST_charAt (i := 0) hs2 (by omega) (by omega)) (rest := [.ref x]) rfl rfl ⟨Nat.le_of_ble_eq_true rfl, Nat.le_of_ble_eq_true rfl⟩ (Nat.le_of_ble_eq_true rfl) (Nat.le_of_ble_eq_true rfl) (Nat.le_of_ble_eq_true rfl) ?_
      rintro q9 h9 ⟨rfl, hh9⟩
      rw [hh9]
      exact fin _ rfl
  refine jj_putF C rfl fp_QR_26 rfl jj_up_s rfl rfl (Nat.le_of_ble_eq_true rfl) ?_
  refine jj_eq (h' := jj_up h x (.inr (5, [.ref tx, .null, .int 0, .int 0, .int 0, .int 0]))) rfl rfl rfl (by rw [jj_up_up]; rfl) ?_
  exact put
theorem qr_init_r {x : Nat} {be : Nat} (ho : h x = some (.inr (5, [.null, .null, .int 0, .int 0, .int 0, .int 0]))) (hs : kx_ST aC h tx txb t) (hl : t.length ≤ 60) : jj_Ct l D aC base yn_QR_init yb_QR_init 3 none 4 0 0 [.ref x, .ref tx, .ref be] h (fun r h' => r = none ∧ h' = qr_w h x tx (.ref be) t 0 false false) := by
  have hne : x ≠ tx ∧ x ≠ txb := by
    obtain ⟨_, _, _, h1, h2, -⟩ := hs
    exact ⟨(fun q => by rw [q, h1] at ho; cases ho), (fun q => by rw [q, h2] at ho; cases ho)⟩
  have hs1 : ∀ e : va_E, kx_ST aC (jj_up h x e) tx txb t := fun e => hs.up hne.1 hne.2
  have hr1 : ∀ e : va_E, ∃ fs, (jj_up h x e) tx = some (.inr (10, fs)) := fun e => (hs1 e).recv
  refine jj_start (tb := tb_QR_init) (by decide) tg_QR_init (Nat.le_of_ble_eq_true rfl) ?_
  intro p e s m args below meth cc C
  refine jj_go C 1 rfl ?_
  refine jj_objI C rfl wd_555 wd_29 wd_30 ⟨(Nat.le_of_ble_eq_true rfl), (Nat.le_of_ble_eq_true rfl)⟩ (Nat.zero_le _) ?_
  refine jj_go C 2 rfl ?_
  refine jj_putf C rfl fl_QR_9 ho rfl rfl (Nat.le_of_ble_eq_true rfl) ?_
  refine jj_eq (h' := jj_up h x (.inr (5, [.null, .null, .int 0, .int 0, .int 0, .int 0]))) rfl rfl rfl rfl ?_
  refine jj_go C 2 rfl ?_
  refine jj_putf C rfl fl_QR_15 jj_up_s rfl rfl (Nat.le_of_ble_eq_true rfl) ?_
  refine jj_eq (h' := jj_up h x (.inr (5, [.null, .null, .int 0, .int 0, .int 0, .int 0]))) rfl rfl rfl (by rw [jj_up_up]; rfl) ?_
  refine jj_go C 2 rfl ?_
  refine jj_putf C rfl fl_QR_19 jj_up_s rfl rfl (Nat.le_of_ble_eq_true rfl) ?_
  refine jj_eq (h' := jj_up h x (.inr (5, [.null, .null, .int 0, .int 0, .int 0, .int 0]))) rfl rfl rfl (by rw [jj_up_up]; rfl) ?_
  refine jj_go C 2 rfl ?_
  refine jj_putF C rfl fp_QR_22 rfl jj_up_s rfl rfl (Nat.le_of_ble_eq_true rfl) ?_
  refine jj_eq (h' := jj_up h x (.inr (5, [.ref tx, .null, .int 0, .int 0, .int 0, .int 0]))) rfl rfl rfl (by rw [jj_up_up]; rfl) ?_
  refine jj_go C 2 rfl ?_
  have put : jj_J p l e (jj_rm 4 0 0) s m args below meth cc D base 3 (MQ below (jj_Q D base (fun r h' => r = none ∧ h' = qr_w h x tx (.ref be) t 0 false false)) args s 0 0 (jj_A base)) 29 [(0, .ref x), (1, .ref tx), (2, .ref be)] [] (jj_up h x (.inr (5, [.ref tx, (.ref be), .int 0, .int 0, .int 0, .int 0]))) 0 0 := by
    have hs2 := hs1 (.inr (5, [.ref tx, (.ref be), .int 0, .int 0, .int 0, .int 0]))
    obtain ⟨fs2, hr2⟩ := hr1 (.inr (5, [.ref tx, (.ref be), .int 0, .int 0, .int 0, .int 0]))
    have hv2 : ∃ hs hz f, (jj_up h x (.inr (5, [.ref tx, (.ref be), .int 0, .int 0, .int 0, .int 0]))) tx = some (kx_st txb hs hz) ∧ (jj_up h x (.inr (5, [.ref tx, (.ref be), .int 0, .int 0, .int 0, .int 0]))) txb = some (kx_ba aC t.length f) := by
      obtain ⟨a1, a2, a3, a4, a5, -⟩ := hs2
      exact ⟨a1, a2, a3, a4, a5⟩
    obtain ⟨b1, b2, b3, b4, b5⟩ := hv2
    have fin : ∀ c : Nat, c = t.getD 0 0 → jj_J p l e (jj_rm 4 0 0) s m args below meth cc D base 3 (MQ below (jj_Q D base (fun r h' => r = none ∧ h' = qr_w h x tx (.ref be) t 0 false false)) args s 0 0 (jj_A base)) 46 [(0, .ref x), (1, .ref tx), (2, .ref be)] [.int (nI c), .ref x] (jj_up h x (.inr (5, [.ref tx, (.ref be), .int 0, .int 0, .int 0, .int 0]))) 0 0 := by
      intro c hc
      have hc128 := hs.lt 0
      rw [← hc] at hc128
      refine jj_putf C rfl fl_QR_40 jj_up_s (congrArg Value.int (ky_char c hc128)) (ky_fitc c hc128) (Nat.le_of_ble_eq_true rfl) ?_
      refine jj_vret C rfl rfl (Nat.le_of_ble_eq_true rfl) (Nat.le_of_ble_eq_true rfl) ⟨rfl, ?_⟩
      rw [jj_up_up]
      unfold qr_w
      rw [hc]
      rfl
    refine jj_go C 2 rfl ?_
    refine jj_callV C rfl ml_QR_30 wd_557 hr2 rfl se_ST_ST_isEmpty (kx_ST_isEmpty b4 b5 (by omega)) (rest := [.ref x]) rfl rfl ⟨Nat.le_of_ble_eq_true rfl, Nat.le_of_ble_eq_true rfl⟩ (Nat.le_of_ble_eq_true rfl) (Nat.le_of_ble_eq_true rfl) (Nat.le_of_ble_eq_true rfl) ?_
    rintro q9 h9 ⟨rfl, hh9⟩
    rw [hh9]
    by_cases h0 : t.length = 0
    · rw [if_pos h0]
      refine jj_if C rfl (fun z => absurd z (by decide)) (fun _ => ?_)
      refine jj_go C 2 rfl ?_
      exact fin 0 (px_getD_ge (by omega)).symm
    · rw [if_neg h0]
      refine jj_if C rfl (fun _ => ?_) (fun z => absurd rfl z)
      refine jj_go C 2 rfl ?_
      refine jj_callV C rfl ml_QR_36 wd_372 hr2 rfl se_ST_ST_charAt (kt_ST_charAt (i := 0) hs2 (by omega) (by omega)) (rest := [.ref x]) rfl rfl ⟨Nat.le_of_ble_eq_true rfl, Nat.le_of_ble_eq_true rfl⟩ (Nat.le_of_ble_eq_true rfl) (Nat.le_of_ble_eq_true rfl) (Nat.le_of_ble_eq_true rfl) ?_
      rintro q9 h9 ⟨rfl, hh9⟩
      rw [hh9]
      exact fin _ rfl
  refine jj_putF C rfl fp_QR_26 rfl jj_up_s rfl rfl (Nat.le_of_ble_eq_true rfl) ?_
  refine jj_eq (h' := jj_up h x (.inr (5, [.ref tx, (.ref be), .int 0, .int 0, .int 0, .int 0]))) rfl rfl rfl (by rw [jj_up_up]; rfl) ?_
  exact put
theorem qf_init {x : Nat} (ho : h x = some (.inr (6, [.null, .null, .null, .int 0]))) (hs : kx_ST aC h tx txb t) : jj_Ct l D aC base yn_QF_init yb_QF_init 2 none 3 3 28 [.ref x, .ref tx] h (fun r h' => r = none ∧ ∃ sb op bb, QFS aC h' x tx txb sb op bb 16 t [] [] ∧ h sb = none ∧ h op = none ∧ h bb = none ∧ jj_fr [x] h h') := by
  have hne : x ≠ tx ∧ x ≠ txb := by
    obtain ⟨_, _, _, h1, h2, -⟩ := hs
    exact ⟨(fun q => by rw [q, h1] at ho; cases ho), (fun q => by rw [q, h2] at ho; cases ho)⟩
  have htx : ∃ e, h tx = some e := by
    obtain ⟨_, _, _, h1, -, -⟩ := hs
    exact ⟨_, h1⟩
  have htxb : ∃ e, h txb = some e := by
    obtain ⟨_, _, _, -, h2, -⟩ := hs
    exact ⟨_, h2⟩
  obtain ⟨etx, htx⟩ := htx
  obtain ⟨etxb, htxb⟩ := htxb
  refine jj_start (tb := tb_QF_init) (by decide) tg_QF_init (Nat.le_of_ble_eq_true rfl) ?_
  intro p e s m args below meth cc C
  refine jj_go C 1 rfl ?_
  refine jj_objI C rfl wd_624 wd_29 wd_30 ⟨(Nat.le_of_ble_eq_true rfl), (Nat.le_of_ble_eq_true rfl)⟩ (Nat.zero_le _) ?_
  refine jj_go C 1 rfl ?_
  refine jj_new C rfl nw_QF_9 (Nat.le_of_ble_eq_true rfl) (Nat.le_of_ble_eq_true rfl) (fun sb hsb => ?_)
  have nsb : sb ≠ x := fun q => by rw [q, ho] at hsb; cases hsb
  have ntx : tx ≠ sb := jj_ne hsb htx
  have ntxb : txb ≠ sb := jj_ne hsb htxb
  have ho1 := (jj_up_n (e := .inr (11, [.null, .int 0, .int 0, .int 0])) (Ne.symm nsb)).trans ho
  have hs1 := hs.up (x := .inr (11, [.null, .int 0, .int 0, .int 0])) (Ne.symm ntx) (Ne.symm ntxb)
  have hf1 : jj_fr [x] h (jj_up h sb (.inr (11, [.null, .int 0, .int 0, .int 0]))) := jj_fr.rf.up (Or.inr hsb)
  have hn1 : ∀ c, jj_up h sb (.inr (11, [.null, .int 0, .int 0, .int 0])) c = none → h c = none ∧ c ≠ sb := by
    intro c hc
    by_cases hcs : c = sb
    · rw [hcs, jj_up_s] at hc
      cases hc
    · rw [jj_up_n hcs] at hc
      exact ⟨hc, hcs⟩
  have hsb1 : jj_up h sb (.inr (11, [.null, .int 0, .int 0, .int 0])) sb = some (.inr (11, [.null, .int 0, .int 0, .int 0])) := jj_up_s
  generalize jj_up h sb (.inr (11, [.null, .int 0, .int 0, .int 0])) = h1 at ho1 hs1 hf1 hn1 hsb1 ⊢
  refine jj_go C 1 rfl ?_
  refine jj_callI C rfl ml_QF_11 wd_34 rfl (kx_SB_init hsb1) (rest := [.ref sb, .ref x]) rfl rfl ⟨(Nat.le_of_ble_eq_true rfl), (Nat.le_of_ble_eq_true rfl)⟩ (Nat.le_of_ble_eq_true rfl) (Nat.le_of_ble_eq_true rfl) (Nat.le_of_ble_eq_true rfl) ?_
  rintro q9 h2 ⟨rfl, bb, hbb, hh2⟩
  have nbx : bb ≠ x := fun q => by rw [q, ho1] at hbb; cases hbb
  obtain ⟨hbb0, nbs⟩ := hn1 bb hbb
  have ntxb2 : txb ≠ bb := jj_ne hbb0 htxb
  have ntx2 : tx ≠ bb := jj_ne hbb0 htx
  have ho2 : h2 x = some (.inr (6, [.null, .null, .null, .int 0])) := by rw [hh2, jj_up_n (Ne.symm nsb), jj_up_n (Ne.symm nbx)]; exact ho1
  have hs2 : kx_ST aC h2 tx txb t := by rw [hh2]; exact (hs1.up (Ne.symm ntx2) (Ne.symm ntxb2)).up (Ne.symm ntx) (Ne.symm ntxb)
  have hf2 : jj_fr [x] h h2 := by rw [hh2]; exact (hf1.up (Or.inr hbb0)).up (Or.inr hsb)
  have hB2 : kx_SB aC h2 sb bb 16 [] := ⟨0, fun _ => 0, by rw [hh2, jj_up_s]; rfl, by rw [hh2, jj_up_n nbs, jj_up_s], fun i hi => absurd hi (Nat.not_lt_zero _), sb_fit0, by decide, by decide⟩
  have hn2 : ∀ c, h2 c = none → h c = none ∧ c ≠ bb := by
    intro c hc
    rw [hh2] at hc
    by_cases hcs : c = sb
    · rw [hcs, jj_up_s] at hc
      cases hc
    · rw [jj_up_n hcs] at hc
      by_cases hcb : c = bb
      · rw [hcb, jj_up_s] at hc
        cases hc
      · rw [jj_up_n hcb] at hc
        exact ⟨(hn1 c hc).1, hcb⟩
  refine jj_putF C rfl fp_QF_12 rfl ho2 rfl rfl (Nat.le_of_ble_eq_true rfl) ?_
  have ho3 : jj_up h2 x (.inr (6, [.null, .ref sb, .null, .int 0])) x = some (.inr (6, [.null, .ref sb, .null, .int 0])) := jj_up_s
  have hs3 := hs2.up (x := .inr (6, [.null, .ref sb, .null, .int 0])) hne.1 hne.2
  have hf3 : jj_fr [x] h (jj_up h2 x (.inr (6, [.null, .ref sb, .null, .int 0]))) := hf2.up (Or.inl List.mem_cons_self)
  have hB3 := hB2.up (x := .inr (6, [.null, .ref sb, .null, .int 0])) (Ne.symm nsb) (Ne.symm nbx)
  have hn3 : ∀ c, jj_up h2 x (.inr (6, [.null, .ref sb, .null, .int 0])) c = none → h c = none ∧ c ≠ bb := by
    intro c hc
    by_cases hcs : c = x
    · rw [hcs, jj_up_s] at hc
      cases hc
    · rw [jj_up_n hcs] at hc
      exact hn2 c hc
  refine jj_eq (h' := jj_up h2 x (.inr (6, [.null, .ref sb, .null, .int 0]))) rfl rfl rfl rfl ?_
  generalize jj_up h2 x (.inr (6, [.null, .ref sb, .null, .int 0])) = h3 at ho3 hs3 hf3 hB3 hn3 ⊢
  refine jj_go C 2 rfl ?_
  refine jj_newa C 0 (N := 8) (a0 := (8, .inl (fun _ => 0))) rfl wd_103 rfl rfl (fun _ => rfl) rfl (by decide) (Nat.le_of_ble_eq_true rfl) (Nat.le_of_ble_eq_true rfl) (fun op hop => ?_)
  obtain ⟨hop0, nob⟩ := hn3 op hop
  have nox : op ≠ x := fun q => by rw [q, ho] at hop0; cases hop0
  have nos : op ≠ sb := by
    obtain ⟨_, _, hh, -⟩ := hB3
    exact fun q => by rw [q, hh] at hop; cases hop
  have ho4 := (jj_up_n (e := .inl (aC 0, 8, .inl (fun _ => 0))) (Ne.symm nox)).trans ho3
  have hs4 := hs3.up (x := .inl (aC 0, 8, .inl (fun _ => 0))) (Ne.symm (jj_ne hop0 htx)) (Ne.symm (jj_ne hop0 htxb))
  have hf4 := hf3.up (a := op) (x := .inl (aC 0, 8, .inl (fun _ => 0))) (Or.inr hop0)
  have hB4 := hB3.up (x := .inl (aC 0, 8, .inl (fun _ => 0))) nos nob
  have hop4 : jj_up h3 op (.inl (aC 0, 8, .inl (fun _ => 0))) op = some (.inl (aC 0, 8, .inl (fun _ => 0))) := jj_up_s
  refine jj_eq (h' := jj_up h3 op (.inl (aC 0, 8, .inl (fun _ => 0)))) rfl rfl rfl rfl ?_
  generalize jj_up h3 op (.inl (aC 0, 8, .inl (fun _ => 0))) = h4 at ho4 hs4 hf4 hB4 hop4 ⊢
  refine jj_putF C rfl fp_QF_18 rfl ho4 rfl rfl (Nat.le_of_ble_eq_true rfl) ?_
  refine jj_eq (h' := jj_up h4 x (.inr (6, [.null, .ref sb, .ref op, .int 0]))) rfl rfl rfl rfl ?_
  refine jj_go C 2 rfl ?_
  refine jj_putf C rfl fl_QF_22 jj_up_s rfl rfl (Nat.le_of_ble_eq_true rfl) ?_
  refine jj_eq (h' := jj_up h4 x (.inr (6, [.null, .ref sb, .ref op, .int 0]))) rfl rfl rfl (by rw [jj_up_up]; rfl) ?_
  refine jj_go C 2 rfl ?_
  refine jj_putF C rfl fp_QF_26 rfl jj_up_s rfl rfl (Nat.le_of_ble_eq_true rfl) ?_
  refine jj_eq (h' := jj_up h4 x (.inr (6, [.ref tx, .ref sb, .ref op, .int 0]))) rfl rfl rfl (by rw [jj_up_up]; rfl) ?_
  exact jj_vret C rfl rfl (Nat.le_of_ble_eq_true rfl) (Nat.le_of_ble_eq_true rfl) ⟨rfl, sb, op, bb, ⟨jj_up_s, hs4.up hne.1 hne.2, hB4.up (Ne.symm nsb) (Ne.symm nbx), ⟨_, (jj_up_n nox).trans hop4, trivial⟩, nob, ntxb2, jj_ne hop0 htxb⟩, hsb, hop0, hbb0, hf4.up (Or.inl List.mem_cons_self)⟩
theorem qf_written {f : Nat → Nat → List Nat} {j0 k0 : Nat} {A : (Nat → Option Int32) → Nat} (hq : QFS aC h qf tx txb sb op bb mm t [] []) (hl : t.length ≤ 60) (hQ : QQ 2 t f j0 k0 A) (hct : t.count 40 ≤ 8) : jj_Ct l D aC base yn_QF_written yb_QF_written 4 (some (.object "java/lang/String")) 7 62 8666 [.ref qf] h (fun q h' => ∃ z zb, q = some (.ref z) ∧ kx_ST aC h' z zb (f 0 0) ∧ (z ∈ bb :: [qf, sb, op] ∨ h z = none) ∧ (zb ∈ bb :: [qf, sb, op] ∨ h zb = none) ∧ jj_fr (bb :: [qf, sb, op]) h h') := by
  have hch := hq.2.1.lt
  refine jj_start (tb := tb_QF_written) (by decide) tg_QF_written (Nat.le_of_ble_eq_true rfl) ?_
  intro p e s m args below meth cc C
  have next : ∀ (p1 kc ks : Nat) (v2 v3 : Int32) (h2 : jjHp), kc ≤ p1 + 1 → ks ≤ 142 * (p1 + 1) → jj_J p l e (jj_rm 7 62 8666) s m args below meth cc D base 4 (MQ below (jj_Q D base (fun q h' => ∃ z zb, q = some (.ref z) ∧ kx_ST aC h' z zb (f 0 0) ∧ (z ∈ bb :: [qf, sb, op] ∨ h z = none) ∧ (zb ∈ bb :: [qf, sb, op] ∨ h zb = none) ∧ jj_fr (bb :: [qf, sb, op]) h h')) args s 62 8666 (jj_A base)) 2 [(0, .ref qf), (1, .int (nI (p1 + 1)))] [] h2 (p1 + 1) (142 * (p1 + 1)) → jj_J p l e (jj_rm 7 62 8666) s m args below meth cc D base 4 (MQ below (jj_Q D base (fun q h' => ∃ z zb, q = some (.ref z) ∧ kx_ST aC h' z zb (f 0 0) ∧ (z ∈ bb :: [qf, sb, op] ∨ h z = none) ∧ (zb ∈ bb :: [qf, sb, op] ∨ h zb = none) ∧ jj_fr (bb :: [qf, sb, op]) h h')) args s 62 8666 (jj_A base)) 116 [(0, .ref qf), (1, .int (nI p1)), (2, .int v2), (3, .int v3)] [] h2 kc ks := by
    intro p1 kc ks v2 v3 h2 a b hj
    refine jj_go C 2 rfl ?_
    refine jj_less (lc' := [(0, .ref qf), (1, .int (nI p1 + 1))]) (fun q hq => List.mem_append_left [_, _] hq) a b ?_
    rw [nI_1]
    exact hj
  have head : ∀ (p1 c : Nat) (o1 st1 : List Nat) (h1 : jjHp) (bb1 mm1 : Nat), p1 < t.length → t.getD p1 0 = c → QFS aC h1 qf tx txb sb op bb1 mm1 t o1 st1 → jj_J p l e (jj_rm 7 62 8666) s m args below meth cc D base 4 (MQ below (jj_Q D base (fun q h' => ∃ z zb, q = some (.ref z) ∧ kx_ST aC h' z zb (f 0 0) ∧ (z ∈ bb :: [qf, sb, op] ∨ h z = none) ∧ (zb ∈ bb :: [qf, sb, op] ∨ h zb = none) ∧ jj_fr (bb :: [qf, sb, op]) h h')) args s 62 8666 (jj_A base)) 50 [(0, .ref qf), (1, .int (nI p1)), (2, .int (nI c)), (3, .int (nI (t.getD (p1 + 1) 0)))] [] h1 p1 (142 * p1) → jj_J p l e (jj_rm 7 62 8666) s m args below meth cc D base 4 (MQ below (jj_Q D base (fun q h' => ∃ z zb, q = some (.ref z) ∧ kx_ST aC h' z zb (f 0 0) ∧ (z ∈ bb :: [qf, sb, op] ∨ h z = none) ∧ (zb ∈ bb :: [qf, sb, op] ∨ h zb = none) ∧ jj_fr (bb :: [qf, sb, op]) h h')) args s 62 8666 (jj_A base)) 2 [(0, .ref qf), (1, .int (nI p1))] [] h1 p1 (142 * p1) := by
    intro p1 c o1 st1 h1 bb1 mm1 hp1 hc hq1 hj
    have ho1 := hq1.1
    have hs1 := hq1.2.1
    obtain ⟨fs1, hr1⟩ := hs1.recv
    refine jj_go C 2 rfl ?_
    refine jj_getf C rfl fl_QF_26 ho1 rfl ?_
    refine jj_callV C rfl ml_QF_30 wd_364 hr1 rfl se_ST_ST_length (kt_ST_length hs1) (rest := [.int (nI p1)]) rfl rfl ⟨Nat.le_of_ble_eq_true rfl, Nat.le_of_ble_eq_true rfl⟩ (by show p1 + 0 ≤ 62; omega) (by show 142 * p1 + 0 ≤ 8666; omega) (Nat.le_of_ble_eq_true rfl) ?_
    rintro q9 h9 ⟨rfl, hh9⟩
    rw [hh9]
    refine jj_if C rfl (fun z => absurd z (nI_ge hp1 (by omega))) (fun _ => ?_)
    refine jj_go C 1 rfl ?_
    refine jj_getf C rfl fl_QF_26 ho1 rfl ?_
    refine jj_go C 1 rfl ?_
    refine jj_callV C rfl ml_QF_36 wd_372 hr1 rfl se_ST_ST_charAt (kt_ST_charAt (i := p1) hs1 hp1 (by omega)) (rest := []) rfl rfl ⟨Nat.le_of_ble_eq_true rfl, Nat.le_of_ble_eq_true rfl⟩ (by show p1 + 0 ≤ 62; omega) (by show 142 * p1 + 0 ≤ 8666; omega) (Nat.le_of_ble_eq_true rfl) ?_
    rintro q9 h9 ⟨rfl, hh9⟩
    rw [hh9]
    rw [hc]
    refine jj_go C 4 rfl ?_
    refine jj_top (nI_1 p1) ?_
    refine jj_go C 1 rfl ?_
    refine jj_getf C rfl fl_QF_26 ho1 rfl ?_
    refine jj_callV C rfl ml_QF_30 wd_364 hr1 rfl se_ST_ST_length (kt_ST_length hs1) (rest := [.int (nI (p1 + 1))]) rfl rfl ⟨Nat.le_of_ble_eq_true rfl, Nat.le_of_ble_eq_true rfl⟩ (by show p1 + 0 ≤ 62; omega) (by show 142 * p1 + 0 ≤ 8666; omega) (Nat.le_of_ble_eq_true rfl) ?_
    rintro q9 h9 ⟨rfl, hh9⟩
    rw [hh9]
    refine jj_if C rfl (fun z => ?_) (fun z => ?_)
    · have g := (nI_leI (a := t.length) (b := p1 + 1) (by omega) (by omega)).mp z
      rw [px_getD_ge g] at hj
      refine jj_go C 2 rfl ?_
      exact hj
    · have g : p1 + 1 < t.length := Nat.not_le.mp (fun q => z (nI_le q (by omega)))
      refine jj_go C 1 rfl ?_
      refine jj_getf C rfl fl_QF_26 ho1 rfl ?_
      refine jj_go C 3 rfl ?_
      refine jj_top (nI_1 p1) ?_
      refine jj_callV C rfl ml_QF_36 wd_372 hr1 rfl se_ST_ST_charAt (kt_ST_charAt (i := p1 + 1) hs1 g (by omega)) (rest := []) rfl rfl ⟨Nat.le_of_ble_eq_true rfl, Nat.le_of_ble_eq_true rfl⟩ (by show p1 + 0 ≤ 62; omega) (by show 142 * p1 + 0 ≤ 8666; omega) (Nat.le_of_ble_eq_true rfl) ?_
      rintro q9 h9 ⟨rfl, hh9⟩
      rw [hh9]
      refine jj_go C 2 rfl ?_
      exact hj
  have run := QQ.wrote (t := t) (W := fun p1 o1 st1 => st1.length ≤ 8 → o1.length ≤ p1 → ∀ (h1 : jjHp) (bb1 mm1 : Nat), QFS aC h1 qf tx txb sb op bb1 mm1 t o1 st1 → (bb1 = bb ∨ h bb1 = none) → jj_fr (bb :: [qf, sb, op]) h h1 → jj_J p l e (jj_rm 7 62 8666) s m args below meth cc D base 4 (MQ below (jj_Q D base (fun q h' => ∃ z zb, q = some (.ref z) ∧ kx_ST aC h' z zb (f 0 0) ∧ (z ∈ bb :: [qf, sb, op] ∨ h z = none) ∧ (zb ∈ bb :: [qf, sb, op] ∨ h zb = none) ∧ jj_fr (bb :: [qf, sb, op]) h h')) args s 62 8666 (jj_A base)) 2 [(0, .ref qf), (1, .int (nI p1))] [] h1 p1 (142 * p1)) (by
      intro p1 o1 st1 c hp1 hc n40 n41 hw hst ho h1 bb1 mm1 hq1 hb1 hf1
      have hc128 := hch p1
      rw [hc] at hc128
      have hd128 := hch (p1 + 1)
      refine head p1 c o1 st1 h1 bb1 mm1 hp1 hc hq1 ?_
      have ho1 := hq1.1
      have hs1 := hq1.2.2.1
      obtain ⟨fs1, hr1⟩ := hs1.recv
      have hla := qd_last_lt hs1.lt
      have app : ¬ (c = 48 ∧ pc_dg (t.getD (p1 + 1) 0) = true ∧ pc_dg (o1.getLastD 0) = false) → jj_J p l e (jj_rm 7 62 8666) s m args below meth cc D base 4 (MQ below (jj_Q D base (fun q h' => ∃ z zb, q = some (.ref z) ∧ kx_ST aC h' z zb (f 0 0) ∧ (z ∈ bb :: [qf, sb, op] ∨ h z = none) ∧ (zb ∈ bb :: [qf, sb, op] ∨ h zb = none) ∧ jj_fr (bb :: [qf, sb, op]) h h')) args s 62 8666 (jj_A base)) 107 [(0, .ref qf), (1, .int (nI p1)), (2, .int (nI c)), (3, .int (nI (t.getD (p1 + 1) 0)))] [] h1 p1 (142 * p1) := by
        intro hno
        rw [if_neg hno] at hw
        refine jj_go C 1 rfl ?_
        refine jj_getf C rfl fl_QF_12 ho1 rfl ?_
        refine jj_go C 1 rfl ?_
        refine jj_callV C rfl ml_QF_55 wd_145 hr1 rfl se_SB_SB_append (kt_SB_append (k := c) hs1 (by omega) hc128) (rest := []) rfl rfl ⟨Nat.le_of_ble_eq_true rfl, Nat.le_of_ble_eq_true rfl⟩ (by show p1 + 1 ≤ 62; omega) (by show 142 * p1 + 142 ≤ 8666; omega) (Nat.le_of_ble_eq_true rfl) ?_
        rintro q9 h3 ⟨rfl, b', m', hs3, hb3, hf3⟩
        obtain ⟨hq3, hf3⟩ := hq1.out hs3 hb3 hf3
        obtain ⟨hf4, hb4⟩ := qf_tr hf1 hq1.ex hb1 hf3 hb3
        refine jj_go C 1 rfl ?_
        exact next p1 _ _ _ _ h3 (by omega) (by omega) (hw hst (by rw [List.length_append]; show o1.length + 1 ≤ _; omega) h3 b' m' hq3 hb4 hf4)
      refine jj_go C 2 rfl ?_
      refine jj_if C rfl (fun z => absurd ((nI_eq (a := c) (b := 40) (by omega) (by decide)).mp z) n40) (fun _ => ?_)
      refine jj_go C 2 rfl ?_
      refine jj_if C rfl (fun z => absurd ((nI_eq (a := c) (b := 41) (by omega) (by decide)).mp z) n41) (fun _ => ?_)
      refine jj_go C 2 rfl ?_
      refine jj_if C rfl (fun z => ?_) (fun z => ?_)
      rotate_left
      · have g : ¬ c = 48 := fun q => z (by rw [q]; rfl)
        exact app (fun q => g q.1)
      have g := (nI_eq (a := c) (b := 48) (by omega) (by decide)).mp z
      refine jj_go C 1 rfl ?_
      refine jj_callS C rfl ml_QF_47 wd_690 (qf_isDigit (c := t.getD (p1 + 1) 0) hd128) (rest := []) rfl rfl ⟨(Nat.le_of_ble_eq_true rfl), (Nat.le_of_ble_eq_true rfl)⟩ (by show p1 + 0 ≤ 62; omega) (by show 142 * p1 + 0 ≤ 8666; omega) (Nat.le_of_ble_eq_true rfl) ?_
      rintro q9 h9 ⟨rfl, hh9⟩
      rw [hh9]
      cases hd : pc_dg (t.getD (p1 + 1) 0) with
      | false =>
        refine jj_if C rfl (fun _ => ?_) (fun z => absurd rfl z)
        exact app (fun q => by rw [hd] at q; cases q.2.1)
      | true =>
        refine jj_if C rfl (fun z => absurd z (by decide)) (fun _ => ?_)
        refine jj_go C 2 rfl ?_
        refine jj_getf C rfl fl_QF_12 ho1 rfl ?_
        refine jj_callV C rfl ml_QF_51 wd_138 hr1 rfl se_SB_SB_length (kt_SB_length hs1) (rest := [.ref qf]) rfl rfl ⟨Nat.le_of_ble_eq_true rfl, Nat.le_of_ble_eq_true rfl⟩ (by show p1 + 0 ≤ 62; omega) (by show 142 * p1 + 0 ≤ 8666; omega) (Nat.le_of_ble_eq_true rfl) ?_
        rintro q9 h9 ⟨rfl, hh9⟩
        rw [hh9]
        refine jj_callV C rfl ml_QF_52 wd_658 ho1 rfl se_QF_QF_lastBefore (qf_lastBefore (n := o1.length) ho1 hs1 (Nat.le_refl _) (by omega)) (rest := []) rfl rfl ⟨Nat.le_of_ble_eq_true rfl, Nat.le_of_ble_eq_true rfl⟩ (by show p1 + 0 ≤ 62; omega) (by show 142 * p1 + 0 ≤ 8666; omega) (Nat.le_of_ble_eq_true rfl) ?_
        rintro q9 h9 ⟨rfl, hh9⟩
        rw [hh9]
        have e3 : qd_b o1 o1.length = o1.getLastD 0 := by
          have := qd_b_last (o := o1) (x := [])
          rw [List.append_nil] at this
          exact this
        rw [e3]
        refine jj_callS C rfl ml_QF_47 wd_690 (qf_isDigit (c := o1.getLastD 0) hla) (rest := []) rfl rfl ⟨(Nat.le_of_ble_eq_true rfl), (Nat.le_of_ble_eq_true rfl)⟩ (by show p1 + 0 ≤ 62; omega) (by show 142 * p1 + 0 ≤ 8666; omega) (Nat.le_of_ble_eq_true rfl) ?_
        rintro q9 h9 ⟨rfl, hh9⟩
        rw [hh9]
        cases hd2 : pc_dg (o1.getLastD 0) with
        | true =>
          refine jj_if C rfl (fun z => absurd z (by decide)) (fun _ => ?_)
          exact app (fun q => by rw [hd2] at q; cases q.2.2)
        | false =>
          rw [if_pos ⟨g, hd, hd2⟩] at hw
          refine jj_if C rfl (fun _ => ?_) (fun z => absurd rfl z)
          exact next p1 _ _ _ _ h1 (by omega) (by omega) (hw hst (by omega) h1 bb1 mm1 hq1 hb1 hf1)) (by
      intro p1 o1 st1 hp1 hc hst8 hw hst ho h1 bb1 mm1 hq1 hb1 hf1
      refine head p1 40 o1 st1 h1 bb1 mm1 hp1 hc hq1 ?_
      refine jj_go C 2 rfl ?_
      refine jj_if C rfl (fun _ => ?_) (fun z => absurd rfl z)
      refine jj_go C 1 rfl ?_
      refine jj_callV C rfl ml_QF_40 wd_648 hq1.1 rfl se_QF_QF_openParenthesis (qf_open hq1 hst8 (by omega)) (rest := []) rfl rfl ⟨Nat.le_of_ble_eq_true rfl, Nat.le_of_ble_eq_true rfl⟩ (by show p1 + 1 ≤ 62; omega) (by show 142 * p1 + 142 ≤ 8666; omega) (Nat.le_of_ble_eq_true rfl) ?_
      rintro q9 h3 ⟨rfl, b', m', hq3, hb3, hf3⟩
      obtain ⟨hf4, hb4⟩ := qf_tr hf1 hq1.ex hb1 hf3 hb3
      refine jj_go C 1 rfl ?_
      exact next p1 _ _ _ _ h3 (by omega) (by omega) (hw (by rw [List.length_cons]; omega) (by rw [List.length_append]; show o1.length + 1 ≤ _; omega) h3 b' m' hq3 hb4 hf4)) (by
      intro p1 o1 x1 st1 b j hp1 hc hb hj hbal hw hst ho h1 bb1 mm1 hq1 hb1 hf1
      have hd128 := hch (p1 + 1)
      refine head p1 41 _ _ h1 bb1 mm1 hp1 hc hq1 ?_
      rw [List.length_cons] at hst
      have ho' := ho
      rw [List.length_append, List.length_cons] at ho'
      refine jj_go C 2 rfl ?_
      refine jj_if C rfl (fun z => absurd z (by decide)) (fun _ => ?_)
      refine jj_go C 2 rfl ?_
      refine jj_if C rfl (fun _ => ?_) (fun z => absurd rfl z)
      refine jj_go C 2 rfl ?_
      refine jj_callV C rfl ml_QF_43 wd_654 hq1.1 rfl se_QF_QF_closeParenthesis (qf_close hq1 (by omega) hb hj hbal hd128 (by omega)) (rest := []) rfl rfl ⟨Nat.le_of_ble_eq_true rfl, Nat.le_of_ble_eq_true rfl⟩ (by show p1 + 1 ≤ 62; omega) (by show 142 * p1 + 142 ≤ 8666; omega) (Nat.le_of_ble_eq_true rfl) ?_
      rintro q9 h3 ⟨rfl, b', m', hq3, hb3, hf3⟩
      obtain ⟨hf4, hb4⟩ := qf_tr hf1 hq1.ex hb1 hf3 hb3
      refine jj_go C 1 rfl ?_
      refine next p1 _ _ _ _ h3 (by omega) (by omega) (hw (by omega) ?_ h3 b' m' hq3 hb4 hf4)
      split
      · simp only [List.length_append, List.length_cons, List.length_nil]
        omega
      · simp only [List.length_append]
        omega) hQ 0 [] [] [] (by rw [List.drop_zero, List.append_nil]) rfl rfl (by show 0 + t.count 40 ≤ 8; omega) (by
      intro hst ho h1 bb1 mm1 hq1 hb1 hf1
      rw [Nat.zero_add] at ho ⊢
      have ho1 := hq1.1
      have hs1 := hq1.2.1
      have hB1 := hq1.2.2.1
      obtain ⟨fs1, hr1⟩ := hs1.recv
      obtain ⟨fs2, hr2⟩ := hB1.recv
      refine jj_go C 2 rfl ?_
      refine jj_getf C rfl fl_QF_26 ho1 rfl ?_
      refine jj_callV C rfl ml_QF_30 wd_364 hr1 rfl se_ST_ST_length (kt_ST_length hs1) (rest := [.int (nI t.length)]) rfl rfl ⟨Nat.le_of_ble_eq_true rfl, Nat.le_of_ble_eq_true rfl⟩ (by show t.length + 0 ≤ 62; omega) (by show 142 * t.length + 0 ≤ 8666; omega) (Nat.le_of_ble_eq_true rfl) ?_
      rintro q9 h9 ⟨rfl, hh9⟩
      rw [hh9]
      refine jj_if C rfl (fun _ => ?_) (fun z => absurd (nI_le (Nat.le_refl _) (by omega)) z)
      refine jj_go C 1 rfl ?_
      refine jj_getf C rfl fl_QF_12 ho1 rfl ?_
      refine jj_callV C rfl ml_QF_59 wd_252 hr2 rfl se_SB_SB_toString (kt_SB_toString hB1) (rest := []) rfl rfl ⟨Nat.le_of_ble_eq_true rfl, Nat.le_of_ble_eq_true rfl⟩ (by show t.length + 2 ≤ 62; omega) (by show 142 * t.length + 146 ≤ 8666; omega) (Nat.le_of_ble_eq_true rfl) ?_
      rintro q9 h3 ⟨z, zb, rfl, hz, hzb, hs3, hf3⟩
      have fresh : ∀ c, h1 c = none → c ∈ bb :: [qf, sb, op] ∨ h c = none := by
        intro c hc
        by_cases hm : c ∈ bb :: [qf, sb, op]
        · exact Or.inl hm
        · refine Or.inr ?_
          cases hv : h c with
          | none => rfl
          | some e =>
            have := hf1 c e hm hv
            rw [hc] at this
            cases this
      exact jj_aret C rfl rfl (Or.inl ⟨_, rfl⟩) (Or.inr ⟨_, rfl⟩) (by show t.length + 2 ≤ 62; omega) (by show 142 * t.length + 146 ≤ 8666; omega) ⟨z, zb, rfl, hs3, fresh z hz, fresh zb hzb, hf1.tr (hf3.mono (fun c hc => by cases hc))⟩)
  refine jj_go C 2 rfl ?_
  exact run (by decide) (Nat.le_refl _) h bb mm hq (Or.inl rfl) jj_fr.rf
end QFC
