/-! The class and the reference: fits -/
theorem px_ft_f {op : Bool} {P Q : Nat → Option Nat} {g : Nat → Bool} {n : Nat} (h : px_ft op P Q g n = false) : ∀ k, px_ft op P Q g (n + k) = false
  | 0 => h
  | k + 1 => by
    show (px_ft op P Q g (n + k) && _) = false
    rw [px_ft_f h k, Bool.false_and]
section FTS
variable {l : Launch} {D : va_G} {aC : Nat → ClassId} {base : Nat} {h : jjHp}
theorem pt_fits {po no : Nat} {tt nn : List Nat} {G : Bool} (hp : pt_ok aC h po tt) (hpa : px_pa tt = true) (hq : pt_ok aC h no nn) (hqa : px_pa nn = true) (hG : px_fit tt nn = G) : jj_Ct l D aC base yn_PT_fits yb_PT_fits 4 (some .boolean) 6 0 0 [.ref po, .ref no] h (fun q h' => q = some (.int (jb_I G)) ∧ h' = h) := by
  obtain ⟨tx, txb, st, en, Sf, Ef, fm, fmb, ⟨ho, hs, hst, hen, -, -, -, hlen⟩, hE, -⟩ := hp
  obtain ⟨tx', txb', st', en', Sf', Ef', fm', fmb', ⟨ho', hs', hst', hen', -, -, -, hlen'⟩, hE', -⟩ := hq
  have hgd := px_pl_gd hpa
  have hgd' := px_pl_gd hqa
  obtain ⟨d1, d2, -, -⟩ := px_pa_i.mp hpa
  obtain ⟨d1', d2', -, -⟩ := px_pa_i.mp hqa
  unfold px_fit at hG
  refine jj_start (tb := tb_PT_fits) (by decide) tg_PT_fits (Nat.le_of_ble_eq_true rfl) ?_
  intro p e s m args below meth cc C
  have loop : ∀ (k key : Nat) (v : Int32), v = nI key → key + k = 26 → px_ft (px_pl tt).2.2 (px_pl tt).2.1 (px_pl nn).2.1 (px_fg tt nn) key = true → px_ft (px_pl tt).2.2 (px_pl tt).2.1 (px_pl nn).2.1 (px_fg tt nn) 26 = G → jj_J p l e (jj_rm 6 0 0) s m args below meth cc D base 4 (MQ below (jj_Q D base (fun q h' => q = some (.int (jb_I G)) ∧ h' = h)) args s 0 0 (jj_A base)) 25 [(0, .ref po), (1, .ref no), (2, .int v)] [] h 0 0 := by
    intro k
    induction k with
    | zero =>
      intro key v hv hk hok hG
      have hd : key = 26 := by omega
      subst hd
      refine jj_go C 2 rfl ?_
      refine jj_if C rfl (fun _ => ?_) (fun z => absurd (by rw [hv]; exact nI_le (b := 26) (Nat.le_refl _) (by omega)) z)
      refine jj_go C 1 rfl ?_
      exact jj_iret C rfl rfl rfl (Nat.le_of_ble_eq_true rfl) (Nat.le_of_ble_eq_true rfl) ⟨by rw [← hG, hok]; rfl, rfl⟩
    | succ k ih =>
      intro key v hv hk hok hG
      have hk26 : key < 26 := by omega
      have bad : px_ft (px_pl tt).2.2 (px_pl tt).2.1 (px_pl nn).2.1 (px_fg tt nn) (key + 1) = false → G = false := by
        intro hf
        have := px_ft_f hf k
        rw [show key + 1 + k = 26 by omega, hG] at this
        exact this
      have step : px_ft (px_pl tt).2.2 (px_pl tt).2.1 (px_pl nn).2.1 (px_fg tt nn) (key + 1) = (match (px_pl tt).2.1 key with | none => (px_pl tt).2.2 || ((px_pl nn).2.1 key).isNone | some _ => ((px_pl nn).2.1 key).isSome && px_fg tt nn key) := by
        show (px_ft (px_pl tt).2.2 (px_pl tt).2.1 (px_pl nn).2.1 (px_fg tt nn) key && _) = _
        rw [hok, Bool.true_and]
        rfl
      have next : ∀ v3 : Int32, px_ft (px_pl tt).2.2 (px_pl tt).2.1 (px_pl nn).2.1 (px_fg tt nn) (key + 1) = true → jj_J p l e (jj_rm 6 0 0) s m args below meth cc D base 4 (MQ below (jj_Q D base (fun q h' => q = some (.int (jb_I G)) ∧ h' = h)) args s 0 0 (jj_A base)) 109 [(0, .ref po), (1, .ref no), (2, .int v), (3, .int v3)] [] h 0 0 := by
        intro v3 hok'
        refine jj_go C 2 rfl ?_
        refine jj_less (lc' := [(0, .ref po), (1, .ref no), (2, .int (v + 1))]) (fun q hq => List.mem_append_left [_] hq) (Nat.le_refl _) (Nat.le_refl _) ?_
        exact ih (key + 1) (v + 1) (by rw [hv, nI_1]) (by omega) hok' hG
      have mid : ∀ b : Bool, ((px_pl nn).2.1 key).isSome = b → jj_J p l e (jj_rm 6 0 0) s m args below meth cc D base 4 (MQ below (jj_Q D base (fun q h' => q = some (.int (jb_I G)) ∧ h' = h)) args s 0 0 (jj_A base)) 46 [(0, .ref po), (1, .ref no), (2, .int v), (3, .int (jb_I b))] [] h 0 0 := by
        intro b hb
        refine jj_go C 1 rfl ?_
        refine jj_getf C rfl fl_PT_9 ho rfl ?_
        refine jj_go C 1 rfl ?_
        refine jj_iald C rfl hst hv hk26 (by decide) ?_
        rcases hE key hk26 with ⟨hP, hS⟩ | ⟨pk, hP, hpk, hS, hX⟩
        · rw [hP] at step
          refine jj_if C rfl (fun _ => ?_) (fun z => absurd hS z)
          refine jj_go C 1 rfl ?_
          cases b with
          | false =>
            refine jj_if C rfl (fun _ => ?_) (fun z => absurd rfl z)
            refine next _ (step.trans ?_)
            have hnn : ((px_pl nn).2.1 key).isNone = true := by
              cases hQ : (px_pl nn).2.1 key with
              | none => rfl
              | some x => rw [hQ] at hb; cases hb
            rw [hnn]
            simp
          | true =>
            refine jj_if C rfl (fun z => absurd z (by decide)) (fun _ => ?_)
            refine jj_go C 1 rfl ?_
            refine jj_getf C rfl fl_PT_22 ho rfl ?_
            have hnn : ((px_pl nn).2.1 key).isNone = false := by
              cases hQ : (px_pl nn).2.1 key with
              | none => rw [hQ] at hb; cases hb
              | some x => rfl
            have hstep := step
            rw [hnn] at hstep
            cases hop : (px_pl tt).2.2 with
            | false =>
              rw [hop] at hstep
              refine jj_if C rfl (fun _ => ?_) (fun z => absurd rfl z)
              refine jj_go C 1 rfl ?_
              exact jj_iret C rfl rfl rfl (Nat.le_of_ble_eq_true rfl) (Nat.le_of_ble_eq_true rfl) ⟨by rw [bad (by rw [hop]; exact hstep)]; rfl, rfl⟩
            | true =>
              rw [hop] at hstep
              refine jj_if C rfl (fun z => absurd z (by decide)) (fun _ => ?_)
              exact next _ (by rw [hop]; exact hstep)
        · rw [hP] at step
          obtain ⟨g1, g2, g3, g4, g5, g6, g7⟩ := hgd key pk hP
          refine jj_if C rfl (fun z => absurd z (by rw [hS]; exact fun q => absurd ((nI_eq (a := pk + 2) (b := 0) (by omega) (by decide)).mp q) (by omega))) (fun _ => ?_)
          refine jj_go C 1 rfl ?_
          cases b with
          | false =>
            rw [hb] at step
            refine jj_if C rfl (fun _ => ?_) (fun z => absurd rfl z)
            refine jj_go C 1 rfl ?_
            exact jj_iret C rfl rfl rfl (Nat.le_of_ble_eq_true rfl) (Nat.le_of_ble_eq_true rfl) ⟨by rw [bad step]; rfl, rfl⟩
          | true =>
            refine jj_if C rfl (fun z => absurd z (by decide)) (fun _ => ?_)
            rcases hE' key hk26 with ⟨hQ, -⟩ | ⟨qk, hQ, hqk, hS', hX'⟩
            · rw [hQ] at hb
              cases hb
            obtain ⟨f1, f2, f3, f4, f5, f6, f7⟩ := hgd' key qk hQ
            rw [hQ] at step
            have hfg : px_fg tt nn key = px_G (fun i => tt.getD (pk + 2 + i) 0) (fun i => nn.getD (qk + 2 + i) 0) (px_re tt true (pk + 2) - (pk + 2)) (px_re nn true (qk + 2) - (qk + 2)) := by
              unfold px_fg
              rw [hP, hQ]
              rfl
            have hc := pt_standsFor (l := l) (D := D) (base := base) (f0 := pk + 2) (mm := px_re tt true (pk + 2) - (pk + 2)) (s0 := qk + 2) (n := px_re nn true (qk + 2) - (qk + 2)) ho rfl hs hlen (by omega) hs' (by omega) (by omega) hlen'
            rw [show pk + 2 + (px_re tt true (pk + 2) - (pk + 2)) = px_re tt true (pk + 2) by omega, show qk + 2 + (px_re nn true (qk + 2) - (qk + 2)) = px_re nn true (qk + 2) by omega, ← hfg] at hc
            refine jj_go C 2 rfl ?_
            refine jj_getf C rfl fl_PT_9 ho rfl ?_
            refine jj_go C 1 rfl ?_
            refine jj_iald C rfl hst hv hk26 (by decide) ?_
            refine jj_top hS ?_
            refine jj_go C 1 rfl ?_
            refine jj_getf C rfl fl_PT_15 ho rfl ?_
            refine jj_go C 1 rfl ?_
            refine jj_iald C rfl hen hv hk26 (by decide) ?_
            refine jj_top hX ?_
            refine jj_go C 1 rfl ?_
            refine jj_getf C rfl fl_PT_32 ho' rfl ?_
            refine jj_go C 1 rfl ?_
            refine jj_getf C rfl fl_PT_9 ho' rfl ?_
            refine jj_go C 1 rfl ?_
            refine jj_iald C rfl hst' hv hk26 (by decide) ?_
            refine jj_top hS' ?_
            refine jj_go C 1 rfl ?_
            refine jj_getf C rfl fl_PT_15 ho' rfl ?_
            refine jj_go C 1 rfl ?_
            refine jj_iald C rfl hen' hv hk26 (by decide) ?_
            refine jj_top hX' ?_
            refine jj_callV C rfl ml_PT_60 wd_720 ho rfl se_PT_PT_standsFor hc (rest := []) rfl rfl ⟨Nat.le_of_ble_eq_true rfl, Nat.le_of_ble_eq_true rfl⟩ (Nat.le_of_ble_eq_true rfl) (Nat.le_of_ble_eq_true rfl) (Nat.le_of_ble_eq_true rfl) ?_
            rintro q9 h9 ⟨rfl, hh9⟩
            rw [hh9]
            cases hg : px_fg tt nn key with
            | false =>
              rw [hg] at step
              refine jj_if C rfl (fun _ => ?_) (fun z => absurd rfl z)
              refine jj_go C 1 rfl ?_
              exact jj_iret C rfl rfl rfl (Nat.le_of_ble_eq_true rfl) (Nat.le_of_ble_eq_true rfl) ⟨by rw [bad step]; rfl, rfl⟩
            | true =>
              rw [hg] at step
              refine jj_if C rfl (fun z => absurd z (by decide)) (fun _ => ?_)
              exact next _ step
      refine jj_go C 2 rfl ?_
      refine jj_if C rfl (fun z => absurd z (by rw [hv]; exact nI_ge (b := 26) hk26 (by omega))) (fun _ => ?_)
      refine jj_go C 1 rfl ?_
      refine jj_getf C rfl fl_PT_9 ho' rfl ?_
      refine jj_go C 1 rfl ?_
      refine jj_iald C rfl hst' hv hk26 (by decide) ?_
      rcases hE' key hk26 with ⟨hQ, hS'⟩ | ⟨qk, hQ, hqk, hS', hX'⟩
      · refine jj_if C rfl (fun _ => ?_) (fun z => absurd hS' z)
        refine jj_go C 2 rfl ?_
        exact mid false (by rw [hQ]; rfl)
      · refine jj_if C rfl (fun z => absurd z (by rw [hS']; exact fun q => absurd ((nI_eq (a := qk + 2) (b := 0) (by omega) (by decide)).mp q) (by omega))) (fun _ => ?_)
        refine jj_go C 3 rfl ?_
        exact mid true (by rw [hQ]; rfl)
  have hc := pt_standsFor (l := l) (D := D) (base := base) (f0 := 0) (mm := px_re tt true 0) (s0 := 0) (n := px_re nn true 0) ho rfl hs hlen (by omega) hs' (by omega) (by omega) hlen'
  simp only [Nat.zero_add] at hc
  refine jj_go C 3 rfl ?_
  refine jj_getf C rfl fl_PT_18 ho rfl ?_
  refine jj_go C 1 rfl ?_
  refine jj_getf C rfl fl_PT_32 ho' rfl ?_
  refine jj_go C 2 rfl ?_
  refine jj_getf C rfl fl_PT_18 ho' rfl ?_
  refine jj_callV C rfl ml_PT_60 wd_720 ho rfl se_PT_PT_standsFor hc (rest := []) rfl rfl ⟨Nat.le_of_ble_eq_true rfl, Nat.le_of_ble_eq_true rfl⟩ (Nat.le_of_ble_eq_true rfl) (Nat.le_of_ble_eq_true rfl) (Nat.le_of_ble_eq_true rfl) ?_
  rintro q9 h9 ⟨rfl, hh9⟩
  rw [hh9]
  cases hg : px_G (fun i => tt.getD i 0) (fun i => nn.getD i 0) (px_re tt true 0) (px_re nn true 0) with
  | false =>
    rw [hg, Bool.false_and] at hG
    refine jj_if C rfl (fun _ => ?_) (fun z => absurd rfl z)
    refine jj_go C 1 rfl ?_
    exact jj_iret C rfl rfl rfl (Nat.le_of_ble_eq_true rfl) (Nat.le_of_ble_eq_true rfl) ⟨by rw [← hG]; rfl, rfl⟩
  | true =>
    rw [hg, Bool.true_and] at hG
    refine jj_if C rfl (fun z => absurd z (by decide)) (fun _ => ?_)
    refine jj_go C 2 rfl ?_
    exact loop 26 0 0 nI_0.symm rfl rfl hG
end FTS
section MFT
variable {l : Launch} {D : va_G} {aC : Nat → ClassId} {base : Nat} {h : jjHp} {y : Nat} {ad : Nat → Nat} {rh : Nat → List Nat} {sg : Nat → Nat → Int32} {mu : Nat → Int64} {io : Nat → Int32}
theorem rr_fits {b : Nat} {tt nn : List Nat} {G : Bool} (hR : RR aC h y ad rh sg mu io) (hb : b < 12) (h32 : rh 32 = px_fo tt) (hpa : px_pa tt = true) (hrb : rh b = px_fo nn) (hqa : px_pa nn = true) (hop : io 22 = jb_I (px_pl tt).2.2) (hG : px_fit tt nn = G) : jj_Ct l D aC base yn_MO_fits yb_MO_fits 5 (some .boolean) 3 0 0 [.ref y, .int (nI b)] h (fun q h' => q = some (.int (jb_I G)) ∧ h' = h) := by
  obtain ⟨hl1, -⟩ := hR.len (r := 32) (by decide)
  obtain ⟨hl2, -⟩ := hR.len (r := b) (by omega)
  have hgd := px_pl_gd hpa
  have hgd' := px_pl_gd hqa
  obtain ⟨d1, d2, -, -⟩ := px_pa_i.mp hpa
  obtain ⟨d1', d2', -, -⟩ := px_pa_i.mp hqa
  obtain ⟨c1, c2, c3, c4, c5, c6⟩ := px_fo_dom hpa
  obtain ⟨e1, e2, e3, e4, e5, e6⟩ := px_fo_dom hqa
  unfold px_fit at hG
  have hy := hR.oy
  refine jj_start (tb := tb_MO_fits) (by decide) tg_MO_fits (Nat.le_of_ble_eq_true rfl) ?_
  intro p e s m args below meth cc C
  have loop : ∀ (k key : Nat) (v : Int32), v = nI key → key + k = 26 → px_ft (px_pl tt).2.2 (px_pl tt).2.1 (px_pl nn).2.1 (px_fg tt nn) key = true → px_ft (px_pl tt).2.2 (px_pl tt).2.1 (px_pl nn).2.1 (px_fg tt nn) 26 = G → jj_J p l e (jj_rm 3 0 0) s m args below meth cc D base 5 (MQ below (jj_Q D base (fun q h' => q = some (.int (jb_I G)) ∧ h' = h)) args s 0 0 (jj_A base)) 16 [(0, .ref y), (1, .int (nI b)), (2, .int v)] [] h 0 0 := by
    intro k
    induction k with
    | zero =>
      intro key v hv hk hok hG
      have hd : key = 26 := by omega
      subst hd
      refine jj_go C 2 rfl ?_
      refine jj_if C rfl (fun _ => ?_) (fun z => absurd (by rw [hv]; exact nI_le (b := 26) (Nat.le_refl _) (by omega)) z)
      refine jj_go C 1 rfl ?_
      exact jj_iret C rfl rfl rfl (Nat.le_of_ble_eq_true rfl) (Nat.le_of_ble_eq_true rfl) ⟨by rw [← hG, hok]; rfl, rfl⟩
    | succ k ih =>
      intro key v hv hk hok hG
      have hk26 : key < 26 := by omega
      have bad : px_ft (px_pl tt).2.2 (px_pl tt).2.1 (px_pl nn).2.1 (px_fg tt nn) (key + 1) = false → G = false := by
        intro hf
        have := px_ft_f hf k
        rw [show key + 1 + k = 26 by omega, hG] at this
        exact this
      have step : px_ft (px_pl tt).2.2 (px_pl tt).2.1 (px_pl nn).2.1 (px_fg tt nn) (key + 1) = (match (px_pl tt).2.1 key with | none => (px_pl tt).2.2 || ((px_pl nn).2.1 key).isNone | some _ => ((px_pl nn).2.1 key).isSome && px_fg tt nn key) := by
        show (px_ft (px_pl tt).2.2 (px_pl tt).2.1 (px_pl nn).2.1 (px_fg tt nn) key && _) = _
        rw [hok, Bool.true_and]
        rfl
      have next : ∀ v3 v4 : Int32, px_ft (px_pl tt).2.2 (px_pl tt).2.1 (px_pl nn).2.1 (px_fg tt nn) (key + 1) = true → jj_J p l e (jj_rm 3 0 0) s m args below meth cc D base 5 (MQ below (jj_Q D base (fun q h' => q = some (.int (jb_I G)) ∧ h' = h)) args s 0 0 (jj_A base)) 84 [(0, .ref y), (1, .int (nI b)), (2, .int v), (3, .int v3), (4, .int v4)] [] h 0 0 := by
        intro v3 v4 hok'
        refine jj_go C 2 rfl ?_
        refine jj_less (lc' := [(0, .ref y), (1, .int (nI b)), (2, .int (v + 1))]) (fun q hq => List.mem_append_left [_, _] hq) (Nat.le_refl _) (Nat.le_refl _) ?_
        exact ih (key + 1) (v + 1) (by rw [hv, nI_1]) (by omega) hok' hG
      refine jj_go C 2 rfl ?_
      refine jj_if C rfl (fun z => absurd z (by rw [hv]; exact nI_ge (b := 26) hk26 (by omega))) (fun _ => ?_)
      subst hv
      refine jj_go C 3 rfl ?_
      refine jj_callV C rfl ml_MO_147 wd_1168 hy rfl se_MO_MO_property (rr_property (r := 32) (key := key) hR (by decide) hk26) (rest := []) rfl rfl ⟨Nat.le_of_ble_eq_true rfl, Nat.le_of_ble_eq_true rfl⟩ (Nat.le_of_ble_eq_true rfl) (Nat.le_of_ble_eq_true rfl) (Nat.le_of_ble_eq_true rfl) ?_
      rintro q9 h9 ⟨rfl, hh9⟩
      rw [hh9]
      refine jj_go C 4 rfl ?_
      refine jj_callV C rfl ml_MO_147 wd_1168 hy rfl se_MO_MO_property (rr_property (r := b) (key := key) hR (by omega) hk26) (rest := []) rfl rfl ⟨Nat.le_of_ble_eq_true rfl, Nat.le_of_ble_eq_true rfl⟩ (Nat.le_of_ble_eq_true rfl) (Nat.le_of_ble_eq_true rfl) (Nat.le_of_ble_eq_true rfl) ?_
      rintro q9 h9 ⟨rfl, hh9⟩
      rw [hh9]
      rw [h32, hrb]
      refine jj_go C 2 rfl ?_
      cases hP : (px_pl tt).2.1 key with
      | none =>
        rw [hP] at step
        rw [px_fo_none hpa hP]
        refine jj_if C rfl (fun z => absurd z (by decide)) (fun _ => ?_)
        cases hQ : (px_pl nn).2.1 key with
        | none =>
          rw [hQ] at step
          rw [px_fo_none hqa hQ]
          refine jj_go C 1 rfl ?_
          refine jj_if C rfl (fun _ => ?_) (fun z => absurd (by decide) z)
          refine jj_go C 1 rfl ?_
          refine jj_if C rfl (fun _ => ?_) (fun z => absurd (by decide) z)
          exact next _ _ (step.trans (by simp))
        | some qk =>
          rw [hQ] at step
          obtain ⟨k2, a1, a2, -, -⟩ := px_fo_some hqa hQ hk26
          rw [a1]
          rw [hrb] at hl2
          refine jj_go C 1 rfl ?_
          refine jj_if C rfl (fun z => absurd (nI_pos' (show k2 < 2 ^ 31 by omega)) (Int32.not_le.mpr z)) (fun _ => ?_)
          refine jj_go C 1 rfl ?_
          refine jj_getf C rfl fl_MO_102 hy rfl ?_
          rw [hop]
          cases ho : (px_pl tt).2.2 with
          | false =>
            refine jj_if C rfl (fun _ => ?_) (fun z => absurd rfl z)
            refine jj_go C 1 rfl ?_
            exact jj_iret C rfl rfl rfl (Nat.le_of_ble_eq_true rfl) (Nat.le_of_ble_eq_true rfl) ⟨by rw [bad (by rw [step, ho]; rfl)]; rfl, rfl⟩
          | true =>
            refine jj_if C rfl (fun z => absurd z (by decide)) (fun _ => ?_)
            refine jj_go C 1 rfl ?_
            refine jj_if C rfl (fun _ => ?_) (fun z => absurd (by decide) z)
            exact next _ _ (by rw [step, ho]; rfl)
      | some pk =>
        rw [hP] at step
        obtain ⟨k1, b1, b2, b3, b4⟩ := px_fo_some hpa hP hk26
        obtain ⟨g1, g2, g3, g4, g5, g6, g7⟩ := hgd key pk hP
        rw [b1]
        have hl1' := hl1
        rw [h32] at hl1'
        refine jj_if C rfl (fun _ => ?_) (fun z => absurd (nI_pos' (show k1 < 2 ^ 31 by omega)) z)
        refine jj_go C 1 rfl ?_
        refine jj_if C rfl (fun z => absurd (nI_pos' (show k1 < 2 ^ 31 by omega)) (Int32.not_le.mpr z)) (fun _ => ?_)
        cases hQ : (px_pl nn).2.1 key with
        | none =>
          rw [hQ] at step
          rw [px_fo_none hqa hQ]
          refine jj_go C 1 rfl ?_
          refine jj_if C rfl (fun _ => ?_) (fun z => absurd (by decide) z)
          refine jj_go C 1 rfl ?_
          exact jj_iret C rfl rfl rfl (Nat.le_of_ble_eq_true rfl) (Nat.le_of_ble_eq_true rfl) ⟨by rw [bad (by rw [step]; rfl)]; rfl, rfl⟩
        | some qk =>
          rw [hQ] at step
          obtain ⟨k2, a1, a2, a3, a4⟩ := px_fo_some hqa hQ hk26
          obtain ⟨f1, f2, f3, f4, f5, f6, f7⟩ := hgd' key qk hQ
          rw [a1]
          have hl2' := hl2
          rw [hrb] at hl2'
          refine jj_go C 1 rfl ?_
          refine jj_if C rfl (fun z => absurd (nI_pos' (show k2 < 2 ^ 31 by omega)) (Int32.not_le.mpr z)) (fun _ => ?_)
          have hc := rr_matches (l := l) (D := D) (base := base) (r1 := 32) (p0 := k1 + 2) (r2 := b) (t0 := k2 + 2) (m := px_re tt true (pk + 2) - (pk + 2)) (n := px_re nn true (qk + 2) - (qk + 2)) hR (by decide) (by omega) (by omega) (by omega) (by omega) (by omega) (fun i hi => by
              rw [h32, show k1 + 2 + i = k1 + (2 + i) by omega, b3 (2 + i) (by omega)]
              exact pc_al_pt (px_re_al (t := tt) (w := true) (q := pk + 2) (by omega) (by omega)).2) (by
              rw [h32, show k1 + 2 + (px_re tt true (pk + 2) - (pk + 2)) = k1 + (px_re tt true (pk + 2) - pk) by omega]
              exact b4) (fun i hi => by
              rw [hrb, show k2 + 2 + i = k2 + (2 + i) by omega, a3 (2 + i) (by omega)]
              exact pc_al_pt (px_re_al (t := nn) (w := true) (q := qk + 2) (by omega) (by omega)).2) (by
              rw [hrb, show k2 + 2 + (px_re nn true (qk + 2) - (qk + 2)) = k2 + (px_re nn true (qk + 2) - qk) by omega]
              exact a4)
          have hfg : px_G (fun i => (rh 32).getD (k1 + 2 + i) 0) (fun i => (rh b).getD (k2 + 2 + i) 0) (px_re tt true (pk + 2) - (pk + 2)) (px_re nn true (qk + 2) - (qk + 2)) = px_fg tt nn key := by
            unfold px_fg
            rw [hP, hQ]
            refine px_G_cg _ _ (fun i hi => ?_) (fun i hi => ?_)
            · have hi : i < px_re tt true (pk + 2) - (pk + 2) := hi
              show (rh 32).getD (k1 + 2 + i) 0 = tt.getD (pk + 2 + i) 0
              rw [h32, show k1 + 2 + i = k1 + (2 + i) by omega, b3 (2 + i) (by omega)]
              congr 1
              omega
            · have hi : i < px_re nn true (qk + 2) - (qk + 2) := hi
              show (rh b).getD (k2 + 2 + i) 0 = nn.getD (qk + 2 + i) 0
              rw [hrb, show k2 + 2 + i = k2 + (2 + i) by omega, a3 (2 + i) (by omega)]
              congr 1
              omega
          rw [hfg] at hc
          refine jj_go C 5 rfl ?_
          refine jj_top (show px_oi (some k1) + 2 = nI (k1 + 2) from nI_add k1 2) ?_
          refine jj_go C 4 rfl ?_
          refine jj_top (show px_oi (some k2) + 2 = nI (k2 + 2) from nI_add k2 2) ?_
          refine jj_callV C rfl ml_MO_143 wd_1157 hy rfl se_MO_MO_matches hc (rest := []) rfl rfl ⟨Nat.le_of_ble_eq_true rfl, Nat.le_of_ble_eq_true rfl⟩ (Nat.le_of_ble_eq_true rfl) (Nat.le_of_ble_eq_true rfl) (Nat.le_of_ble_eq_true rfl) ?_
          rintro q9 h9 ⟨rfl, hh9⟩
          rw [hh9]
          cases hg : px_fg tt nn key with
          | false =>
            rw [hg] at step
            refine jj_if C rfl (fun _ => ?_) (fun z => absurd rfl z)
            refine jj_go C 1 rfl ?_
            exact jj_iret C rfl rfl rfl (Nat.le_of_ble_eq_true rfl) (Nat.le_of_ble_eq_true rfl) ⟨by rw [bad (by rw [step]; rfl)]; rfl, rfl⟩
          | true =>
            rw [hg] at step
            refine jj_if C rfl (fun z => absurd z (by decide)) (fun _ => ?_)
            exact next _ _ (by rw [step]; rfl)
  have hc := rr_matches (l := l) (D := D) (base := base) (r1 := 32) (p0 := 0) (r2 := b) (t0 := 0) (m := px_re tt true 0) (n := px_re nn true 0) hR (by decide) (by omega) (by omega) (by omega) (by omega) (by omega) (fun i hi => by
      rw [h32, Nat.zero_add]
      exact c5 i hi) (by
      rw [h32, Nat.zero_add]
      exact c6) (fun i hi => by
      rw [hrb, Nat.zero_add]
      exact e5 i hi) (by
      rw [hrb, Nat.zero_add]
      exact e6)
  have hfg : px_G (fun i => (rh 32).getD (0 + i) 0) (fun i => (rh b).getD (0 + i) 0) (px_re tt true 0) (px_re nn true 0) = px_G (fun i => tt.getD i 0) (fun i => nn.getD i 0) (px_re tt true 0) (px_re nn true 0) := by
    refine px_G_cg _ _ (fun i hi => ?_) (fun i hi => ?_)
    · show (rh 32).getD (0 + i) 0 = tt.getD i 0
      rw [h32, Nat.zero_add, c2 i (by omega)]
    · show (rh b).getD (0 + i) 0 = nn.getD i 0
      rw [hrb, Nat.zero_add, e2 i (by omega)]
  rw [hfg] at hc
  refine jj_go C 5 rfl ?_
  refine jj_callV C rfl ml_MO_143 wd_1157 hy rfl se_MO_MO_matches hc (rest := []) rfl rfl ⟨Nat.le_of_ble_eq_true rfl, Nat.le_of_ble_eq_true rfl⟩ (Nat.le_of_ble_eq_true rfl) (Nat.le_of_ble_eq_true rfl) (Nat.le_of_ble_eq_true rfl) ?_
  rintro q9 h9 ⟨rfl, hh9⟩
  rw [hh9]
  cases hg : px_G (fun i => tt.getD i 0) (fun i => nn.getD i 0) (px_re tt true 0) (px_re nn true 0) with
  | false =>
    rw [hg, Bool.false_and] at hG
    refine jj_if C rfl (fun _ => ?_) (fun z => absurd rfl z)
    refine jj_go C 1 rfl ?_
    exact jj_iret C rfl rfl rfl (Nat.le_of_ble_eq_true rfl) (Nat.le_of_ble_eq_true rfl) ⟨by rw [← hG]; rfl, rfl⟩
  | true =>
    rw [hg, Bool.true_and] at hG
    refine jj_if C rfl (fun z => absurd z (by decide)) (fun _ => ?_)
    refine jj_go C 2 rfl ?_
    exact loop 26 0 0 nI_0.symm rfl rfl hG
end MFT
