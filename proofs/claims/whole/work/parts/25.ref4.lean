/-! The reference: list, reads -/
section ML
variable {l : Launch} {D : va_G} {aC : Nat → ClassId} {base : Nat} {h : jjHp} {y : Nat} {ad : Nat → Nat} {rh : Nat → List Nat} {sg : Nat → Nat → Int32} {mu : Nat → Int64} {io : Nat → Int32}
set_option maxHeartbeats 4000000 in
theorem rr_list {r p0 : Nat} {w : Bool} (hR : RR aC h y ad rh sg mu io) (hr : r < 34) (hp0 : p0 ≤ 61) : jj_Ct l D aC base yn_MO_list yb_MO_list 9 (some .boolean) 2 0 0 [.ref y, .int (nI r), .int (nI p0), .int (jb_I w)] h (fun q h' => ∃ W, q = some (.int (jb_I (px_ls (rh r) w 60 p0 (fun _ => none)).1)) ∧ px_w W (px_ls (rh r) w 60 p0 (fun _ => none)).2.1 ∧ RR aC h' y ad rh (va_up sg 21 W) mu (upd io 22 (jb_I (px_ls (rh r) w 60 p0 (fun _ => none)).2.2)) ∧ jj_fr (rr_S y ad) h h') := by
  obtain ⟨hlen, hch⟩ := hR.len hr
  generalize hG : px_ls (rh r) w 60 p0 (fun _ => none) = G
  refine jj_start (tb := tb_MO_list) (by decide) tg_MO_list (Nat.le_of_ble_eq_true rfl) ?_
  intro p e s m args below meth cc C
  -- the end, with the answer b
  have fin : ∀ (h1 : jjHp) (W : Nat → Int32) (pc : Nat) (lc : jjLoc) (b : Int32), jj_look tb_MO_list pc = some (.ireturn, pc + 1, 0, 0) → b = jb_I G.1 → px_w W G.2.1 → RR aC h1 y ad rh (va_up sg 21 W) mu (upd io 22 (jb_I G.2.2)) → jj_fr (rr_S y ad) h h1 →
      jj_J p l e (jj_rm 2 0 0) s m args below meth cc D base 9 (MQ below (jj_Q D base (fun q h' => ∃ W, q = some (.int (jb_I G.1)) ∧ px_w W G.2.1 ∧ RR aC h' y ad rh (va_up sg 21 W) mu (upd io 22 (jb_I G.2.2)) ∧ jj_fr (rr_S y ad) h h')) args s 0 0 (jj_A base)) pc lc [.int b] h1 0 0 := by
    intro h1 W pc lc b hl hb hw hR1 hf
    subst hb
    refine jj_iret C hl rfl ?_ (Nat.le_refl _) (Nat.le_refl _) ⟨W, rfl, hw, hR1, hf⟩
    cases G.1 <;> rfl
  -- the rounds
  have main : ∀ (n pp : Nat) (P : Nat → Option Nat) (W : Nat → Int32) (h1 : jjHp) (v5 v6 : Int32), v5 = nI pp → n ≤ 60 → v6 = nI (60 - n) → pp ≤ 61 → px_w W P → px_ls (rh r) w n pp P = G → RR aC h1 y ad rh (va_up sg 21 W) mu (upd io 22 0) → jj_fr (rr_S y ad) h h1 →
      jj_J p l e (jj_rm 2 0 0) s m args below meth cc D base 9 (MQ below (jj_Q D base (fun q h' => ∃ W, q = some (.int (jb_I G.1)) ∧ px_w W G.2.1 ∧ RR aC h' y ad rh (va_up sg 21 W) mu (upd io 22 (jb_I G.2.2)) ∧ jj_fr (rr_S y ad) h h')) args s 0 0 (jj_A base)) 43 [(0, .ref y), (1, .int (nI r)), (2, .int (nI p0)), (3, .int (jb_I w)), (4, .int (nI (rh r).length)), (5, .int v5), (6, .int v6)] [] h1 0 0 := by
    intro n
    induction n with
    | zero =>
      intro pp P W h1 v5 v6 hv5 hn hv6 hpp hw he hR1 hf
      have he : (false, P, false) = G := he
      subst he
      refine jj_go C 2 rfl ?_
      refine jj_if C rfl (fun _ => ?_) (fun z => absurd (by rw [hv6]; decide) z)
      refine jj_go C 1 rfl ?_
      exact fin h1 W _ _ _ rfl rfl hw hR1 hf
    | succ n ih =>
      intro pp P W h1 v5 v6 hv5 hn hv6 hpp hw he hR1 hf
      have hy1 := hR1.oy
      refine jj_go C 2 rfl ?_
      refine jj_if C rfl (fun z => absurd z (by rw [hv6]; exact nI_ge (b := 60) (by omega) (by decide))) (fun _ => ?_)
      -- from 82 on: a property
      have prop : ¬ (w = true ∧ pp + 1 = (rh r).length ∧ (rh r).getD pp 0 = 42) → jj_J p l e (jj_rm 2 0 0) s m args below meth cc D base 9 (MQ below (jj_Q D base (fun q h' => ∃ W, q = some (.int (jb_I G.1)) ∧ px_w W G.2.1 ∧ RR aC h' y ad rh (va_up sg 21 W) mu (upd io 22 (jb_I G.2.2)) ∧ jj_fr (rr_S y ad) h h')) args s 0 0 (jj_A base)) 82 [(0, .ref y), (1, .int (nI r)), (2, .int (nI p0)), (3, .int (jb_I w)), (4, .int (nI (rh r).length)), (5, .int v5), (6, .int v6)] [] h1 0 0 := by
        intro hstar
        unfold px_ls at he
        rw [if_neg hstar] at he
        have eg : jr_g (rh r) v5 = (rh r).getD pp 0 := by rw [hv5, jr_g_n (by omega)]
        have hcp := hch pp
        refine jj_go C 3 rfl ?_
        refine jj_callV C rfl ml_MO_83 wd_988 hy1 rfl se_MO_MO_get1 (rr_get1 (x := v5) hR1 hr) (rest := []) rfl rfl ⟨Nat.le_of_ble_eq_true rfl, Nat.le_of_ble_eq_true rfl⟩ (Nat.le_refl _) (Nat.le_refl _) (Nat.zero_le _) ?_
        rintro q h9 ⟨rfl, hh9⟩
        rw [hh9]
        rw [eg]
        refine jj_go C 2 rfl ?_
        refine jj_callS C rfl ml_MO_95 wd_1002 (mo_isSmall (c := (rh r).getD pp 0) (by omega)) (rest := []) rfl rfl ⟨Nat.le_of_ble_eq_true rfl, Nat.le_of_ble_eq_true rfl⟩ (Nat.le_refl _) (Nat.le_refl _) (Nat.zero_le _) ?_
        rintro q h9 ⟨rfl, hh9⟩
        rw [hh9]
        rcases jb_cases (pc_sm ((rh r).getD pp 0)) with ⟨e1, e2⟩ | ⟨e1, e2⟩
        · rw [e2]
          refine jj_if C rfl (fun z => absurd z (by decide)) (fun _ => ?_)
          have eg1 : jr_g (rh r) (v5 + 1) = (rh r).getD (pp + 1) 0 := by rw [hv5, nI_1, jr_g_n (by omega)]
          have hcp1 := hch (pp + 1)
          refine jj_go C 5 rfl ?_
          refine jj_callV C rfl ml_MO_83 wd_988 hy1 rfl se_MO_MO_get1 (rr_get1 (x := v5 + 1) hR1 hr) (rest := []) rfl rfl ⟨Nat.le_of_ble_eq_true rfl, Nat.le_of_ble_eq_true rfl⟩ (Nat.le_refl _) (Nat.le_refl _) (Nat.zero_le _) ?_
          rintro q h9 ⟨rfl, hh9⟩
          rw [hh9]
          rw [eg1]
          refine jj_go C 1 rfl ?_
          refine jj_if C rfl (fun z => ?_) (fun z => ?_)
          · have g61 := (nI_eq (b := 61) (by omega) (by decide)).mp z
            rw [if_pos ⟨e1, g61⟩] at he
            obtain ⟨k1, k2⟩ := pc_sm_i.mp e1
            have hplen : pp + 1 < (rh r).length := by
              by_cases hq : pp + 1 < (rh r).length
              · exact hq
              · rw [px_getD_ge (by omega)] at g61
                cases g61
            have hkey : nI ((rh r).getD pp 0) - 97 = nI ((rh r).getD pp 0 - 97) := pk_sub (b := 97) k1
            have hcell := hR1.oc (k := 21) (by decide) (by decide) (by decide)
            refine jj_go C 1 rfl ?_
            refine jj_getf C rfl fl_MO_68 hy1 rfl ?_
            refine jj_go C 3 rfl ?_
            refine jj_top hkey ?_
            refine jj_iald C (n := 26) (f := W) rfl hcell rfl (by omega) (by decide) ?_
            rcases hw ((rh r).getD pp 0 - 97) (by omega) with ⟨w1, w2⟩ | ⟨pq, w1, w3, w2⟩
            · rw [w2]
              rw [if_neg (by rw [w1]; decide)] at he
              refine jj_if C rfl (fun _ => ?_) (fun z => absurd (by decide) z)
              refine jj_go C 1 rfl ?_
              refine jj_getf C rfl fl_MO_68 hy1 rfl ?_
              refine jj_go C 3 rfl ?_
              refine jj_top hkey ?_
              refine jj_go C 1 rfl ?_
              refine jj_iast C (n := 26) (f := W) rfl hcell rfl (by omega) (by decide) ?_
              have hR2 := hR1.set (k := 21) (by decide) (by decide) (by decide) (upd W ((rh r).getD pp 0 - 97) v5)
              rw [bx_uu] at hR2
              have hf2 := hf.up (a := ad 21) (x := .inl (aC (rr_ty 21), rr_len 21, .inl (upd W ((rh r).getD pp 0 - 97) v5))) (Or.inl (rr_S_k (by decide)))
              have hw2 : px_w (upd W ((rh r).getD pp 0 - 97) v5) (va_up P ((rh r).getD pp 0 - 97) (some pp)) := by rw [hv5]; exact px_w_up hw (by omega)
              generalize hh2 : (jj_up h1 (ad 21) (.inl (aC (rr_ty 21), rr_len 21, .inl (upd W ((rh r).getD pp 0 - 97) v5)))) = h2 at hR2 hf2
              refine jj_eq (h' := h2) rfl rfl rfl hh2 ?_
              generalize upd W ((rh r).getD pp 0 - 97) v5 = W2 at hR2 hw2
              generalize va_up P ((rh r).getD pp 0 - 97) (some pp) = P2 at he hw2
              have hy2 := hR2.oy
              -- behind the row
              have tail : ∀ v8 : Int32, v8 = nI (px_re (rh r) w (pp + 2)) → jj_J p l e (jj_rm 2 0 0) s m args below meth cc D base 9 (MQ below (jj_Q D base (fun q h' => ∃ W, q = some (.int (jb_I G.1)) ∧ px_w W G.2.1 ∧ RR aC h' y ad rh (va_up sg 21 W) mu (upd io 22 (jb_I G.2.2)) ∧ jj_fr (rr_S y ad) h h')) args s 0 0 (jj_A base)) 175 [(0, .ref y), (1, .int (nI r)), (2, .int (nI p0)), (3, .int (jb_I w)), (4, .int (nI (rh r).length)), (5, .int v5), (6, .int v6), (7, .int (nI ((rh r).getD pp 0))), (8, .int v8)] [] h2 0 0 := by
                intro v8 hv8
                have hre : px_re (rh r) w (pp + 2) ≤ max (pp + 2) (rh r).length := px_end_max _ _
                generalize hE : px_re (rh r) w (pp + 2) = E at he hv8 hre
                subst hv8
                refine jj_go C 4 rfl ?_
                refine jj_top (show v5 + 3 = nI (pp + 3) by rw [hv5]; exact nI_add pp 3) ?_
                refine jj_if C rfl (fun z => ?_) (fun z => ?_)
                · have g := (nI_ltI (a := E) (b := pp + 3) (by omega) (by omega)).mp z
                  rw [if_pos (Or.inl g)] at he
                  subst he
                  refine jj_go C 1 rfl ?_
                  exact fin h2 W2 _ _ _ rfl rfl hw2 hR2 hf2
                · have g : ¬ E < pp + 3 := fun q => z ((nI_ltI (a := E) (b := pp + 3) (by omega) (by omega)).mpr q)
                  refine jj_go C 4 rfl ?_
                  refine jj_top (show v5 + 6 = nI (pp + 6) by rw [hv5]; exact nI_add pp 6) ?_
                  refine jj_if C rfl (fun z => ?_) (fun z => ?_)
                  · have g6 := (nI_leI (a := E) (b := pp + 6) (by omega) (by omega)).mp z
                    rw [if_neg (by omega)] at he
                    refine jj_go C 2 rfl ?_
                    refine jj_if C rfl (fun z => ?_) (fun z => ?_)
                    · have gl := (nI_eq (a := E) (b := (rh r).length) (by omega) (by omega)).mp z
                      rw [if_pos gl] at he
                      subst he
                      refine jj_go C 1 rfl ?_
                      exact fin h2 W2 _ _ _ rfl rfl hw2 hR2 hf2
                    · have gl : ¬ E = (rh r).length := fun q => z (by rw [q])
                      rw [if_neg gl] at he
                      have egE : jr_g (rh r) (nI E) = (rh r).getD E 0 := jr_g_n (by omega)
                      have hcE := hch E
                      refine jj_go C 3 rfl ?_
                      refine jj_callV C rfl ml_MO_83 wd_988 hy2 rfl se_MO_MO_get1 (rr_get1 (x := nI E) hR2 hr) (rest := []) rfl rfl ⟨Nat.le_of_ble_eq_true rfl, Nat.le_of_ble_eq_true rfl⟩ (Nat.le_refl _) (Nat.le_refl _) (Nat.zero_le _) ?_
                      rintro q h9 ⟨rfl, hh9⟩
                      rw [hh9]
                      rw [egE]
                      refine jj_go C 1 rfl ?_
                      refine jj_if C rfl (fun z => ?_) (fun z => ?_)
                      · have g44 := (nI_eq (b := 44) (by omega) (by decide)).mp z
                        rw [if_pos g44] at he
                        refine jj_go C 6 rfl ?_
                        refine jj_less (lc' := [(0, .ref y), (1, .int (nI r)), (2, .int (nI p0)), (3, .int (jb_I w)), (4, .int (nI (rh r).length)), (5, .int (nI E + 1)), (6, .int (v6 + 1))]) (fun q hq => List.mem_append_left [_, _] hq) (Nat.le_refl _) (Nat.le_refl _) ?_
                        exact ih (E + 1) P2 W2 h2 _ _ (nI_1 E) (by omega) (by rw [hv6, nI_1]; congr 1; omega) (by omega) hw2 he hR2 hf2
                      · have g44 : ¬ (rh r).getD E 0 = 44 := fun q => z (by rw [q]; rfl)
                        rw [if_neg g44] at he
                        subst he
                        refine jj_go C 1 rfl ?_
                        exact fin h2 W2 _ _ _ rfl rfl hw2 hR2 hf2
                  · have g6 : ¬ E ≤ pp + 6 := fun q => z ((nI_leI (a := E) (b := pp + 6) (by omega) (by omega)).mpr q)
                    rw [if_pos (Or.inr (by omega))] at he
                    subst he
                    refine jj_go C 1 rfl ?_
                    exact fin h2 W2 _ _ _ rfl rfl hw2 hR2 hf2
              -- the row
              have row : ∀ (k q : Nat) (v8 : Int32), v8 = nI q → (rh r).length ≤ q + k → q ≤ 63 → px_end (rh r) w k q = px_re (rh r) w (pp + 2) → jj_J p l e (jj_rm 2 0 0) s m args below meth cc D base 9 (MQ below (jj_Q D base (fun q h' => ∃ W, q = some (.int (jb_I G.1)) ∧ px_w W G.2.1 ∧ RR aC h' y ad rh (va_up sg 21 W) mu (upd io 22 (jb_I G.2.2)) ∧ jj_fr (rr_S y ad) h h')) args s 0 0 (jj_A base)) 148 [(0, .ref y), (1, .int (nI r)), (2, .int (nI p0)), (3, .int (jb_I w)), (4, .int (nI (rh r).length)), (5, .int v5), (6, .int v6), (7, .int (nI ((rh r).getD pp 0))), (8, .int v8)] [] h2 0 0 := by
                intro k
                induction k with
                | zero =>
                  intro q v8 hv8 hk hq hE
                  refine jj_go C 2 rfl ?_
                  refine jj_if C rfl (fun _ => tail v8 (by rw [hv8, ← hE]; rfl)) (fun z => absurd (by rw [hv8]; exact nI_le (by omega) (by omega)) z)
                | succ k ihk =>
                  intro q v8 hv8 hk hq hE
                  refine jj_go C 2 rfl ?_
                  refine jj_if C rfl (fun z => ?_) (fun z => ?_)
                  · rw [hv8] at z
                    have gq := (nI_leI (a := (rh r).length) (b := q) (by omega) (by omega)).mp z
                    refine tail v8 ?_
                    rw [hv8, ← hE]
                    unfold px_end
                    rw [if_neg (by omega)]
                  · rw [hv8] at z
                    have gq : q < (rh r).length := Nat.not_le.mp (fun q9 => z (nI_le q9 (by omega)))
                    have egq : jr_g (rh r) v8 = (rh r).getD q 0 := by rw [hv8, jr_g_n (by omega)]
                    have hcq := hch q
                    refine jj_go C 3 rfl ?_
                    refine jj_callV C rfl ml_MO_83 wd_988 hy2 rfl se_MO_MO_get1 (rr_get1 (x := v8) hR2 hr) (rest := []) rfl rfl ⟨Nat.le_of_ble_eq_true rfl, Nat.le_of_ble_eq_true rfl⟩ (Nat.le_refl _) (Nat.le_refl _) (Nat.zero_le _) ?_
                    rintro q9 h9 ⟨rfl, hh9⟩
                    rw [hh9]
                    rw [egq]
                    refine jj_go C 1 rfl ?_
                    refine jj_callS C rfl ml_MO_106 wd_999 (mo_allowed (c := (rh r).getD q 0) (w := w) (by omega)) (rest := []) rfl rfl ⟨Nat.le_refl _, Nat.le_of_ble_eq_true rfl⟩ (Nat.le_refl _) (Nat.le_refl _) (Nat.zero_le _) ?_
                    rintro q9 h9 ⟨rfl, hh9⟩
                    rw [hh9]
                    rcases jb_cases (pc_al ((rh r).getD q 0) w) with ⟨e3, e4⟩ | ⟨e3, e4⟩
                    · rw [e4]
                      refine jj_if C rfl (fun z => absurd z (by decide)) (fun _ => ?_)
                      refine jj_go C 2 rfl ?_
                      refine ihk (q + 1) (v8 + 1) (by rw [hv8, nI_1]) (by omega) (by omega) ?_
                      rw [← hE]
                      conv => rhs; unfold px_end
                      rw [if_pos ⟨gq, e3⟩]
                    · rw [e4]
                      refine jj_if C rfl (fun _ => ?_) (fun z => absurd rfl z)
                      refine tail v8 ?_
                      rw [hv8, ← hE]
                      unfold px_end
                      rw [if_neg (by rw [e3]; exact fun q9 => by cases q9.2)]
              refine jj_go C 4 rfl ?_
              exact row (rh r).length (pp + 2) (v5 + 2) (by rw [hv5]; exact nI_add pp 2) (by omega) (by omega) rfl
            · rw [w2]
              rw [if_pos (by rw [w1]; rfl)] at he
              subst he
              refine jj_if C rfl (fun z => absurd z (nI_pos (by omega))) (fun _ => ?_)
              refine jj_go C 1 rfl ?_
              exact fin h1 W _ _ _ rfl rfl hw hR1 hf
          · have g61 : ¬ (rh r).getD (pp + 1) 0 = 61 := fun q => z (by rw [q]; rfl)
            rw [if_neg (fun q => g61 q.2)] at he
            subst he
            refine jj_go C 1 rfl ?_
            exact fin h1 W _ _ _ rfl rfl hw hR1 hf
        · rw [e2]
          rw [if_neg (fun q => by rw [e1] at q; cases q.1)] at he
          subst he
          refine jj_if C rfl (fun _ => ?_) (fun z => absurd rfl z)
          refine jj_go C 1 rfl ?_
          exact fin h1 W _ _ _ rfl rfl hw hR1 hf
      refine jj_go C 1 rfl ?_
      rcases jb_cases w with ⟨rfl, w2⟩ | ⟨rfl, w2⟩
      · refine jj_if C rfl (fun z => absurd (w2.symm.trans z) (by decide)) (fun _ => ?_)
        refine jj_go C 4 rfl ?_
        by_cases hz : (rh r).length = 0
        · refine jj_if C rfl (fun z => ?_) (fun _ => prop (fun q => by omega))
          rw [hv5, hz] at z
          have := congrArg Int32.toInt z
          rw [nI_toInt (by omega)] at this
          have h9 : (nI 0 - 1 : Int32).toInt = -1 := by decide
          rw [h9] at this
          omega
        refine jj_top (show nI (rh r).length - 1 = nI ((rh r).length - 1) from pk_sub (b := 1) (by omega)) ?_
        refine jj_if C rfl (fun z => ?_) (fun z => prop (fun q => z (by rw [hv5]; congr 1; omega)))
        rw [hv5] at z
        have gp := (nI_eq (a := pp) (b := (rh r).length - 1) (by omega) (by omega)).mp z
        have eg : jr_g (rh r) v5 = (rh r).getD pp 0 := by rw [hv5, jr_g_n (by omega)]
        have hcp := hch pp
        refine jj_go C 3 rfl ?_
        refine jj_callV C rfl ml_MO_83 wd_988 hy1 rfl se_MO_MO_get1 (rr_get1 (x := v5) hR1 hr) (rest := []) rfl rfl ⟨Nat.le_of_ble_eq_true rfl, Nat.le_of_ble_eq_true rfl⟩ (Nat.le_refl _) (Nat.le_refl _) (Nat.zero_le _) ?_
        rintro q h9 ⟨rfl, hh9⟩
        rw [hh9]
        rw [eg]
        refine jj_go C 1 rfl ?_
        refine jj_if C rfl (fun z => ?_) (fun z => prop (fun q => z (by rw [q.2.2]; rfl)))
        have g42 := (nI_eq (b := 42) (by omega) (by decide)).mp z
        unfold px_ls at he
        rw [if_pos ⟨rfl, by omega, g42⟩] at he
        subst he
        refine jj_go C 2 rfl ?_
        refine jj_putf C rfl fl_MO_102 hy1 rfl rfl (Nat.le_of_ble_eq_true rfl) ?_
        refine jj_go C 1 rfl ?_
        refine fin _ W _ _ _ rfl rfl hw (hR1.put rfl) (hf.up (Or.inl rr_S_y))
      · exact jj_if C rfl (fun _ => prop (fun q => by cases q.1)) (fun z => absurd w2 z)
  -- the start: where is -1 all over
  have start : ∀ (k j : Nat) (v : Int32) (W : Nat → Int32) (h1 : jjHp), v = nI j → j + k = 26 → (∀ i, i < j → W i = -1) → RR aC h1 y ad rh (va_up sg 21 W) mu io → jj_fr (rr_S y ad) h h1 →
      jj_J p l e (jj_rm 2 0 0) s m args below meth cc D base 9 (MQ below (jj_Q D base (fun q h' => ∃ W, q = some (.int (jb_I G.1)) ∧ px_w W G.2.1 ∧ RR aC h' y ad rh (va_up sg 21 W) mu (upd io 22 (jb_I G.2.2)) ∧ jj_fr (rr_S y ad) h h')) args s 0 0 (jj_A base)) 3 [(0, .ref y), (1, .int (nI r)), (2, .int (nI p0)), (3, .int (jb_I w)), (4, .int v)] [] h1 0 0 := by
    intro k
    induction k with
    | zero =>
      intro j v W h1 hv hk hw hR1 hf
      have hj : j = 26 := by omega
      subst hj
      have hy1 := hR1.oy
      refine jj_go C 2 rfl ?_
      refine jj_if C rfl (fun _ => ?_) (fun z => absurd (by rw [hv]; decide) z)
      refine jj_go C 2 rfl ?_
      refine jj_putf C rfl fl_MO_102 hy1 rfl rfl (Nat.le_of_ble_eq_true rfl) ?_
      have hR2 : RR aC (jj_up h1 y (.inr (9, (rr_fs ad io).set 22 (.int 0)))) y ad rh (va_up sg 21 W) mu (upd io 22 0) := hR1.put rfl
      have hf2 := hf.up (a := y) (x := .inr (9, (rr_fs ad io).set 22 (.int 0))) (Or.inl rr_S_y)
      generalize (jj_up h1 y (.inr (9, (rr_fs ad io).set 22 (.int 0)))) = h2 at hR2 hf2 ⊢
      obtain ⟨hy2, f0, f1, hne, L, S, g0, g1, hRR⟩ := hR2.oT
      refine jj_go C 1 rfl ?_
      refine jj_getf C rfl fl_MO_13 hy2 f1 ?_
      refine jj_go C 1 rfl ?_
      refine jj_iald C rfl g1 rfl hr (by decide) ?_
      refine jj_top (hRR r hr).1 ?_
      refine jj_go C 5 rfl ?_
      exact main 60 p0 (fun _ => none) W h2 _ _ rfl (Nat.le_refl _) rfl hp0 (fun i hi => Or.inl ⟨rfl, hw i hi⟩) hG hR2 hf2
    | succ k ih =>
      intro j v W h1 hv hk hw hR1 hf
      have hy1 := hR1.oy
      have hcell := hR1.oc (k := 21) (by decide) (by decide) (by decide)
      refine jj_go C 2 rfl ?_
      refine jj_if C rfl (fun z => absurd z (by rw [hv]; exact nI_ge (b := 26) (by omega) (by decide))) (fun _ => ?_)
      refine jj_go C 1 rfl ?_
      refine jj_getf C rfl fl_MO_68 hy1 rfl ?_
      refine jj_go C 2 rfl ?_
      refine jj_iast C (n := 26) (f := W) (j := j) rfl hcell hv (by omega) (by decide) ?_
      refine jj_go C 2 rfl ?_
      have hR2 := hR1.set (k := 21) (by decide) (by decide) (by decide) (upd W j (-1))
      rw [bx_uu] at hR2
      exact ih (j + 1) (v + 1) (upd W j (-1)) _ (by rw [hv, nI_1]) (by omega) (fun i hi => by
        by_cases hij : i = j
        · simp [upd, hij]
        · simp only [upd, if_neg hij]
          exact hw i (by omega)) hR2 (hf.up (Or.inl (rr_S_k (by decide))))
  refine jj_go C 2 rfl ?_
  refine start 26 0 0 (sg 21) h nI_0.symm (by omega) (fun i hi => absurd hi (Nat.not_lt_zero _)) ?_ jj_fr.rf
  rw [rr_up_same]
  exact hR
end ML
