/-! The reference: isQuery -/
section MQ3
variable {l : Launch} {D : va_G} {aC : Nat → ClassId} {base : Nat} {h : jjHp} {y : Nat} {ad : Nat → Nat} {rh : Nat → List Nat} {sg : Nat → Nat → Int32} {mu : Nat → Int64} {io : Nat → Int32}
theorem rr_isQuery {G : Bool} (hR : RR aC h y ad rh sg mu io) (hG0 : px_iq (rh 31) 61 0 0 false = G) : jj_Ct l D aC base yn_MO_isQuery yb_MO_isQuery 5 (some .boolean) 4 0 0 [.ref y] h (fun q h' => q = some (.int (jb_I G)) ∧ h' = h) := by
  obtain ⟨hlen, hch⟩ := hR.len (r := 31) (by decide)
  refine jj_start (tb := tb_MO_isQuery) (by decide) tg_MO_isQuery (Nat.le_of_ble_eq_true rfl) ?_
  intro p e s m args below meth cc C
  obtain ⟨hy, f0, f1, hne, L, S, g0, g1, hRR⟩ := hR.oT
  have r1 := (hRR 31 (by decide)).1
  have loop : ∀ (k p3 lv : Nat) (b : Bool), p3 ≤ (rh 31).length → (rh 31).length < p3 + k → lv ≤ p3 → px_iq (rh 31) k p3 lv b = G → jj_J p l e (jj_rm 4 0 0) s m args below meth cc D base 5 (MQ below (jj_Q D base (fun q h' => q = some (.int (jb_I G)) ∧ h' = h)) args s 0 0 (jj_A base)) 6 [(0, .ref y), (1, .int (nI lv)), (2, .int (jb_I b)), (3, .int (nI p3))] [] h 0 0 := by
    intro k
    induction k with
    | zero =>
      intro p3 lv b a1 a2
      omega
    | succ k ih =>
      intro p3 lv b a1 a2 a3 hG
      have hc := hch p3
      unfold px_iq at hG
      refine jj_go C 2 rfl ?_
      refine jj_getf C rfl fl_MO_13 hy f1 ?_
      refine jj_go C 1 rfl ?_
      refine jj_iald C (j := 31) rfl g1 rfl (by decide) (by decide) ?_
      refine jj_top r1 ?_
      refine jj_if C rfl (fun z => ?_) (fun z => ?_)
      · have hge := (nI_leI (a := (rh 31).length) (b := p3) (by omega) (by omega)).mp z
        rw [if_neg (by omega)] at hG
        refine jj_go C 1 rfl ?_
        cases b with
        | false =>
          refine jj_if C rfl (fun _ => ?_) (fun z => absurd rfl z)
          refine jj_go C 1 rfl ?_
          exact jj_iret C rfl rfl rfl (Nat.le_of_ble_eq_true rfl) (Nat.le_of_ble_eq_true rfl) ⟨by rw [← hG]; rfl, rfl⟩
        | true =>
          refine jj_if C rfl (fun z => absurd z (by decide)) (fun _ => ?_)
          refine jj_go C 1 rfl ?_
          refine jj_if C rfl (fun z2 => ?_) (fun z2 => ?_)
          · have g := (nI_eq (a := lv) (b := 0) (by omega) (by decide)).mp z2
            refine jj_go C 2 rfl ?_
            exact jj_iret C rfl rfl rfl (Nat.le_of_ble_eq_true rfl) (Nat.le_of_ble_eq_true rfl) ⟨by rw [← hG, g]; rfl, rfl⟩
          · have g : ¬ lv = 0 := fun q => z2 (by rw [q]; rfl)
            refine jj_go C 1 rfl ?_
            exact jj_iret C rfl rfl rfl (Nat.le_of_ble_eq_true rfl) (Nat.le_of_ble_eq_true rfl) ⟨by rw [← hG, Bool.true_and, beq_eq_false_iff_ne.mpr g]; rfl, rfl⟩
      · have hlt : p3 < (rh 31).length := Nat.not_le.mp (fun q => z (nI_le q (by omega)))
        rw [if_pos hlt] at hG
        refine jj_go C 3 rfl ?_
        refine jj_callV C rfl ml_MO_83 wd_988 hy rfl se_MO_MO_get1 (rr_get1 (r := 31) (x := nI p3) hR (by decide)) (rest := []) rfl rfl ⟨Nat.le_of_ble_eq_true rfl, Nat.le_of_ble_eq_true rfl⟩ (Nat.le_of_ble_eq_true rfl) (Nat.le_of_ble_eq_true rfl) (Nat.le_of_ble_eq_true rfl) ?_
        rintro q9 h9 ⟨rfl, hh9⟩
        rw [hh9]
        rw [jr_g_n (by omega)]
        have back : ∀ (lv' p4 : Nat) (b' : Bool), p4 ≤ (rh 31).length → p3 < p4 → lv' ≤ p4 → px_iq (rh 31) k p4 lv' b' = G → jj_J p l e (jj_rm 4 0 0) s m args below meth cc D base 5 (MQ below (jj_Q D base (fun q h' => q = some (.int (jb_I G)) ∧ h' = h)) args s 0 0 (jj_A base)) 6 [(0, .ref y), (1, .int (nI lv')), (2, .int (jb_I b')), (3, .int (nI p4)), (4, .int (nI ((rh 31).getD p3 0)))] [] h 0 0 := by
          intro lv' p4 b' c1 c2 c3 hG'
          refine jj_less (lc' := [(0, .ref y), (1, .int (nI lv')), (2, .int (jb_I b')), (3, .int (nI p4))]) (fun q hq => List.mem_append_left [_] hq) (Nat.le_refl _) (Nat.le_refl _) ?_
          exact ih p4 lv' b' c1 (by omega) c3 hG'
        generalize (rh 31).getD p3 0 = c at hG hc back ⊢
        refine jj_go C 2 rfl ?_
        cases b with
        | true =>
          rw [if_pos rfl] at hG
          refine jj_if C rfl (fun z => absurd z (by decide)) (fun _ => ?_)
          refine jj_go C 2 rfl ?_
          refine jj_if C rfl (fun z2 => ?_) (fun z2 => ?_)
          · have g := (nI_eq (a := c) (b := 41) (by omega) (by decide)).mp z2
            rw [if_pos g] at hG
            cases lv with
            | zero =>
              rw [if_pos rfl] at hG
              refine jj_go C 3 rfl ?_
              refine jj_if C rfl (fun z => absurd z (by decide)) (fun _ => ?_)
              refine jj_go C 1 rfl ?_
              exact jj_iret C rfl rfl rfl (Nat.le_of_ble_eq_true rfl) (Nat.le_of_ble_eq_true rfl) ⟨by rw [← hG]; rfl, rfl⟩
            | succ lv =>
              rw [if_neg (by omega)] at hG
              have hw : ∀ w : Int32, nI (lv + 1) = w → w + (-1) = nI lv := fun w q => by rw [← q]; exact nI_m1
              generalize nI (lv + 1) = w at hw ⊢
              have hw := hw w rfl
              refine jj_go C 3 rfl ?_
              refine jj_if C rfl (fun _ => ?_) (fun z => absurd (show 0 ≤ w + (-1) by rw [hw]; exact nI_pos' (by omega)) z)
              refine jj_go C 3 rfl ?_
              refine jj_eq (lc' := [(0, .ref y), (1, .int (w + (-1))), (2, .int (jb_I true)), (3, .int (nI p3 + 1)), (4, .int (nI c))]) rfl rfl rfl rfl ?_
              rw [hw, nI_1]
              exact back lv (p3 + 1) true (by omega) (by omega) (by omega) hG
          · have g : ¬ c = 41 := fun q => z2 (by rw [q]; rfl)
            rw [if_neg g] at hG
            have join : (c = 38 ∨ c = 124) → jj_J p l e (jj_rm 4 0 0) s m args below meth cc D base 5 (MQ below (jj_Q D base (fun q h' => q = some (.int (jb_I G)) ∧ h' = h)) args s 0 0 (jj_A base)) 57 [(0, .ref y), (1, .int (nI lv)), (2, .int (jb_I true)), (3, .int (nI p3)), (4, .int (nI c))] [] h 0 0 := by
              intro hj
              rw [if_pos hj] at hG
              refine jj_go C 4 rfl ?_
              refine jj_if C rfl (fun _ => ?_) (fun z => absurd (nI_pos' (by omega)) z)
              refine jj_go C 3 rfl ?_
              refine jj_eq (lc' := [(0, .ref y), (1, .int (nI lv)), (2, .int (jb_I false)), (3, .int (nI (p3 + 1))), (4, .int (nI c))]) rfl (by rw [← nI_1]; rfl) rfl rfl ?_
              exact back lv (p3 + 1) false (by omega) (by omega) (by omega) hG
            refine jj_go C 2 rfl ?_
            refine jj_if C rfl (fun z3 => join (Or.inl ((nI_eq (a := c) (b := 38) (by omega) (by decide)).mp z3))) (fun z3 => ?_)
            have g3 : ¬ c = 38 := fun q => z3 (by rw [q]; rfl)
            refine jj_go C 2 rfl ?_
            refine jj_if C rfl (fun z4 => join (Or.inr ((nI_eq (a := c) (b := 124) (by omega) (by decide)).mp z4))) (fun z4 => ?_)
            have g4 : ¬ c = 124 := fun q => z4 (by rw [q]; rfl)
            rw [if_neg (by omega)] at hG
            refine jj_go C 1 rfl ?_
            exact jj_iret C rfl rfl rfl (Nat.le_of_ble_eq_true rfl) (Nat.le_of_ble_eq_true rfl) ⟨by rw [← hG]; rfl, rfl⟩
        | false =>
          rw [if_neg (by decide)] at hG
          refine jj_if C rfl (fun _ => ?_) (fun z => absurd rfl z)
          refine jj_go C 2 rfl ?_
          refine jj_if C rfl (fun z2 => ?_) (fun z2 => ?_)
          · have g := (nI_eq (a := c) (b := 33) (by omega) (by decide)).mp z2
            rw [if_pos g] at hG
            refine jj_go C 2 rfl ?_
            refine jj_if C rfl (fun z => absurd z (by rw [g]; decide)) (fun _ => ?_)
            refine jj_go C 3 rfl ?_
            refine jj_eq (lc' := [(0, .ref y), (1, .int (nI lv)), (2, .int (jb_I false)), (3, .int (nI (p3 + 1))), (4, .int (nI c))]) rfl (by rw [← nI_1]; rfl) rfl rfl ?_
            exact back lv (p3 + 1) false (by omega) (by omega) (by omega) hG
          · have g : ¬ c = 33 := fun q => z2 (by rw [q]; rfl)
            rw [if_neg g] at hG
            refine jj_go C 2 rfl ?_
            refine jj_if C rfl (fun z3 => ?_) (fun z3 => ?_)
            · have g3 := (nI_eq (a := c) (b := 40) (by omega) (by decide)).mp z3
              rw [if_pos g3] at hG
              refine jj_go C 2 rfl ?_
              refine jj_if C rfl (fun _ => ?_) (fun z => absurd z3 z)
              refine jj_go C 4 rfl ?_
              refine jj_eq (lc' := [(0, .ref y), (1, .int (nI (lv + 1))), (2, .int (jb_I false)), (3, .int (nI (p3 + 1))), (4, .int (nI c))]) rfl (by rw [← nI_1, ← nI_1]; rfl) rfl rfl ?_
              exact back (lv + 1) (p3 + 1) false (by omega) (by omega) (by omega) hG
            · have g3 : ¬ c = 40 := fun q => z3 (by rw [q]; rfl)
              rw [if_neg g3] at hG
              refine jj_go C 2 rfl ?_
              refine jj_callV C rfl ml_MO_190 wd_1070 hy rfl se_MO_MO_comparisonEnd (rr_comparisonEnd (p0 := p3) hR (by omega)) (rest := []) rfl rfl ⟨Nat.le_of_ble_eq_true rfl, Nat.le_of_ble_eq_true rfl⟩ (Nat.le_of_ble_eq_true rfl) (Nat.le_of_ble_eq_true rfl) (Nat.le_of_ble_eq_true rfl) ?_
              rintro q9 h9 ⟨rfl, hh9⟩
              rw [hh9]
              refine jj_go C 2 rfl ?_
              cases hv : px_ce (rh 31) p3 with
              | none =>
                rw [hv] at hG
                refine jj_if C rfl (fun z => absurd z (by decide)) (fun _ => ?_)
                refine jj_go C 1 rfl ?_
                exact jj_iret C rfl rfl rfl (Nat.le_of_ble_eq_true rfl) (Nat.le_of_ble_eq_true rfl) ⟨by rw [← hG]; rfl, rfl⟩
              | some q =>
                rw [hv] at hG
                have hq := px_ce_lt hv
                refine jj_if C rfl (fun _ => ?_) (fun z => absurd (nI_pos' (show q < 2 ^ 31 by omega)) z)
                refine jj_go C 3 rfl ?_
                exact back lv q true hq.2 hq.1 (by omega) hG
  refine jj_go C 6 rfl ?_
  exact loop 61 0 0 false (by omega) (by omega) (Nat.le_refl _) hG0
end MQ3
