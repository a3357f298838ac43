/-! The reference: select -/
/-- what is chosen of the first n beans: how many, the row -/
def px_cf (S : Nat → Bool) (F : Nat → Int32) : Nat → Nat × (Nat → Int32)
  | 0 => (0, F)
  | b + 1 => if S b = true then ((px_cf S F b).1 + 1, upd (px_cf S F b).2 (px_cf S F b).1 (nI b)) else px_cf S F b
theorem px_cf_le {S : Nat → Bool} {F : Nat → Int32} : ∀ n, (px_cf S F n).1 ≤ n
  | 0 => Nat.le_refl _
  | n + 1 => by
    have := px_cf_le (S := S) (F := F) n
    unfold px_cf
    split
    · show (px_cf S F n).1 + 1 ≤ n + 1
      omega
    · omega
def px_sok (t : List Nat) (f : Nat → Int32) (x : Int32) : Bool := (x == -1 || px_at 6 (px_b f) x) && px_rd t true
/-- what select answers when it chooses nothing -/
def px_sno (f : Nat → Int32) (x : Int32) : Int32 := if (x == -1 || px_at 6 (px_b f) x) = true then -1 else -2
section MSE
variable {l : Launch} {D : va_G} {aC : Nat → ClassId} {base : Nat} {h : jjHp} {y : Nat} {ad : Nat → Nat} {rh : Nat → List Nat} {sg : Nat → Nat → Int32} {mu : Nat → Int64} {io : Nat → Int32}
theorem rr_select {x : Int32} {tt : List Nat} {nn : Nat → List Nat} {S : Nat → Bool} (hR : RR aC h y ad rh sg mu io) (htt : rh 33 = tt) (hnn : ∀ b, b < 12 → ¬ sg 2 b = 0 → rh b = px_fo (nn b) ∧ px_pa (nn b) = true) (hQ : ¬ x = -1 → px_at 6 (px_b (sg 5)) x = true → ∃ n f j0 k0 A, n < 6 ∧ x = nI n ∧ QQ 2 (rh (18 + n)) f j0 k0 A ∧ (rh (18 + n)).count 40 < 12 ∧ ∀ b, b < 12 → ¬ sg 2 b = 0 → px_fit tt (nn b) = true → S b = (A (rr_E sg b) == 1)) (hS0 : ∀ b, b < 12 → sg 2 b = 0 → S b = false) (hS1 : ∀ b, b < 12 → ¬ sg 2 b = 0 → px_fit tt (nn b) = false → S b = false) (hS2 : x = -1 → ∀ b, b < 12 → ¬ sg 2 b = 0 → px_fit tt (nn b) = true → S b = true) : jj_Ct l D aC base yn_MO_select yb_MO_select 3 (some .int) 7 0 0 [.ref y, .int x] h (fun q h' => jj_fr (rr_S y ad) h h' ∧ (px_sok tt (sg 5) x = false → q = some (.int (px_sno (sg 5) x)) ∧ RX aC h' y ad (jr_up rh 33 []) sg mu io) ∧ (px_sok tt (sg 5) x = true → q = some (.int (nI (px_cf S (sg 20) 12).1)) ∧ RX aC h' y ad (jr_up (jr_up rh 33 []) 30 (px_fo tt)) (va_up sg 20 (px_cf S (sg 20) 12).2) mu (upd io 19 (nI (px_cf S (sg 20) 12).1)))) := by
  obtain ⟨hlen, hch⟩ := hR.len (r := 33) (by decide)
  rw [htt] at hlen hch
  refine jj_start (tb := tb_MO_select) (by decide) tg_MO_select (Nat.le_of_ble_eq_true rfl) ?_
  intro p e s m args below meth cc C
  refine jj_go C 1 rfl ?_
  refine jj_callV C rfl ml_MO_122 wd_980 hR.oy rfl se_MO_MO_take (mo_take hR.oT) (rest := []) rfl rfl ⟨Nat.le_of_ble_eq_true rfl, Nat.le_of_ble_eq_true rfl⟩ (Nat.le_of_ble_eq_true rfl) (Nat.le_of_ble_eq_true rfl) (Nat.le_of_ble_eq_true rfl) ?_
  rintro q9 h1 ⟨rfl, hT1, hf1⟩
  have hR1 := hR.text hT1 hf1
  have hf1 : jj_fr (rr_S y ad) h h1 := rr_fr01 hf1
  have e31 : jr_up (jr_up rh 31 (rh 33)) 33 [] 31 = tt := by rw [jr_up_n (by decide), jr_up_s, htt]
  have hs1 : sc (jr_up rh 33 []) sg io (jr_up (jr_up rh 31 (rh 33)) 33 []) sg io := (sc.rf.rs (Or.inl rfl) _).up 33 []
  have hrh1 : ∀ k, k < 31 → jr_up (jr_up rh 31 (rh 33)) 33 [] k = rh k := fun k a => by rw [jr_up_n (by omega), jr_up_n (by omega)]
  generalize jr_up (jr_up rh 31 (rh 33)) 33 [] = rh1 at hR1 e31 hs1 hrh1
  have cont : (x == -1 || px_at 6 (px_b (sg 5)) x) = true → jj_J p l e (jj_rm 7 0 0) s m args below meth cc D base 3 (MQ below (jj_Q D base (fun q h' => jj_fr (rr_S y ad) h h' ∧ (px_sok tt (sg 5) x = false → q = some (.int (px_sno (sg 5) x)) ∧ RX aC h' y ad (jr_up rh 33 []) sg mu io) ∧ (px_sok tt (sg 5) x = true → q = some (.int (nI (px_cf S (sg 20) 12).1)) ∧ RX aC h' y ad (jr_up (jr_up rh 33 []) 30 (px_fo tt)) (va_up sg 20 (px_cf S (sg 20) 12).2) mu (upd io 19 (nI (px_cf S (sg 20) 12).1))))) args s 0 0 (jj_A base)) 20 [(0, .ref y), (1, .int x)] [] h1 0 0 := by
    intro hx
    refine jj_go C 3 rfl ?_
    refine jj_callV C rfl ml_MO_125 wd_992 hR1.oy rfl se_MO_MO_reads (As := [.int 31, .int 1]) (rr_reads (r := 31) (w := true) hR1 (by decide)) (rest := []) rfl rfl ⟨Nat.le_of_ble_eq_true rfl, Nat.le_of_ble_eq_true rfl⟩ (Nat.le_of_ble_eq_true rfl) (Nat.le_of_ble_eq_true rfl) (Nat.le_of_ble_eq_true rfl) ?_
    rintro q9 h2 ⟨rfl, W, o, hR2, hf2, himp⟩
    rw [e31] at himp ⊢
    have hf2 := hf1.tr hf2
    have hs2 : sc (jr_up rh 33 []) sg io rh1 (va_up sg 21 W) (upd io 22 o) := (hs1.ss (Or.inl rfl) W).is (Or.inl rfl) o
    cases e1 : px_rd tt true with
    | false =>
      have hsok : px_sok tt (sg 5) x = false := by
        unfold px_sok
        rw [e1, Bool.and_false]
      have hsno : px_sno (sg 5) x = -1 := if_pos hx
      refine jj_if C rfl (fun _ => ?_) (fun z => absurd rfl z)
      refine jj_go C 1 rfl ?_
      exact jj_iret C rfl rfl rfl (Nat.le_of_ble_eq_true rfl) (Nat.le_of_ble_eq_true rfl) ⟨hf2, (fun _ => ⟨by rw [hsno], ⟨_, _, _, hR2, hs2⟩⟩), fun q => by rw [hsok] at q; cases q⟩
    | true =>
      have hsok : px_sok tt (sg 5) x = true := by
        unfold px_sok
        rw [e1, hx]
        rfl
      obtain ⟨hw, ho⟩ := himp e1
      obtain ⟨hfo, hpa⟩ := px_fo_rd e1
      have hpl : (px_ls tt true 60 (px_col tt + 1) (fun _ => none)) = px_pl tt := by
        obtain ⟨-, -, -, h4, -⟩ := px_rd_i.mp e1
        unfold px_pl
        rw [h4]
      refine jj_if C rfl (fun z => absurd z (by decide)) (fun _ => ?_)
      refine jj_go C 1 rfl ?_
      rw [← e31] at hw ho
      refine jj_callV C rfl ml_MO_129 wd_1013 hR2.oy rfl se_MO_MO_order (rr_order (W := W) hR2 (by simp [va_up]) hw (op := (px_ls (rh1 31) true 60 (px_col (rh1 31) + 1) (fun _ => none)).2.2) (by rw [show upd io 22 o 22 = o from if_pos rfl]; exact ho) (by rw [e31]; exact px_rd_gd e1) (by rw [e31]; exact (px_rd_i.mp e1).1) (by rw [e31, ← hfo, px_fo_len hpa]; exact hlen)) (rest := []) rfl rfl ⟨Nat.le_of_ble_eq_true rfl, Nat.le_of_ble_eq_true rfl⟩ (Nat.le_of_ble_eq_true rfl) (Nat.le_of_ble_eq_true rfl) (Nat.le_of_ble_eq_true rfl) ?_
      rintro q9 h3 ⟨rfl, hR3, hf3⟩
      rw [e31, ← hfo] at hR3
      rw [e31, hpl] at ho
      have hf3 := hf2.tr hf3
      have hs3 := hs2.rs (Or.inr rfl) (px_fo tt)
      refine jj_go C 3 rfl ?_
      refine jj_callV C rfl ml_MO_91 wd_984 hR3.oy rfl se_MO_MO_copy (mo_copy (f := 32) (t := 30) hR3.oT (by decide) (by decide) (by decide)) (rest := []) rfl rfl ⟨Nat.le_of_ble_eq_true rfl, Nat.le_of_ble_eq_true rfl⟩ (Nat.le_of_ble_eq_true rfl) (Nat.le_of_ble_eq_true rfl) (Nat.le_of_ble_eq_true rfl) ?_
      rintro q9 h4 ⟨rfl, hT4, hf4⟩
      have hR4 := hR3.text hT4 hf4
      have hf4 : jj_fr (rr_S y ad) h h4 := hf3.tr (rr_fr01 hf4)
      rw [jr_up_s] at hR4
      have hs4 := hs3.up 30 (px_fo tt)
      have e32 : jr_up (jr_up rh1 32 (px_fo tt)) 30 (px_fo tt) 32 = px_fo tt := by rw [jr_up_n (by decide), jr_up_s]
      have hrh4 : ∀ k, k < 30 → jr_up (jr_up rh1 32 (px_fo tt)) 30 (px_fo tt) k = rh k := fun k a => by rw [jr_up_n (by omega), jr_up_n (by omega), hrh1 k (by omega)]
      generalize jr_up (jr_up rh1 32 (px_fo tt)) 30 (px_fo tt) = rh4 at hR4 hs4 e32 hrh4
      have h22 : upd io 22 o 22 = jb_I (px_pl tt).2.2 := by
        rw [show upd io 22 o 22 = o from if_pos rfl]
        exact ho
      generalize upd io 22 o = io4 at hR4 hs4 h22
      generalize va_up sg 21 W = sg4 at hR4 hs4
      refine jj_go C 2 rfl ?_
      refine jj_putf C rfl fl_MO_250 hR4.oy rfl rfl (Nat.le_of_ble_eq_true rfl) ?_
      have hR5 : RR aC (jj_up h4 y (.inr (9, (rr_fs ad io4).set 19 (.int 0)))) y ad rh4 sg4 mu (upd io4 19 0) := hR4.put rfl
      have hf5 : jj_fr (rr_S y ad) h (jj_up h4 y (.inr (9, (rr_fs ad io4).set 19 (.int 0)))) := hf4.up (Or.inl rr_S_y)
      generalize (jj_up h4 y (.inr (9, (rr_fs ad io4).set 19 (.int 0)))) = h5 at hR5 hf5 ⊢
      have hs5 := hs4.put 19 0
      have h22 : upd io4 19 0 22 = jb_I (px_pl tt).2.2 := h22
      generalize upd io4 19 0 = io5 at hR5 hs5 h22
      -- the beans
      have loop : ∀ (k b : Nat) (v : Int32) (h6 : jjHp) (sg6 : Nat → Nat → Int32) (io6 : Nat → Int32), v = nI b → b + k = 12 → RR aC h6 y ad rh4 sg6 mu io6 → sc (jr_up (jr_up rh 33 []) 30 (px_fo tt)) (va_up sg 20 (px_cf S (sg 20) b).2) (upd io 19 (nI (px_cf S (sg 20) b).1)) rh4 sg6 io6 → io6 22 = jb_I (px_pl tt).2.2 → jj_fr (rr_S y ad) h h6 → jj_J p l e (jj_rm 7 0 0) s m args below meth cc D base 3 (MQ below (jj_Q D base (fun q h' => jj_fr (rr_S y ad) h h' ∧ (px_sok tt (sg 5) x = false → q = some (.int (px_sno (sg 5) x)) ∧ RX aC h' y ad (jr_up rh 33 []) sg mu io) ∧ (px_sok tt (sg 5) x = true → q = some (.int (nI (px_cf S (sg 20) 12).1)) ∧ RX aC h' y ad (jr_up (jr_up rh 33 []) 30 (px_fo tt)) (va_up sg 20 (px_cf S (sg 20) 12).2) mu (upd io 19 (nI (px_cf S (sg 20) 12).1))))) args s 0 0 (jj_A base)) 51 [(0, .ref y), (1, .int x), (2, .int v)] [] h6 0 0 := by
        intro k
        induction k with
        | zero =>
          intro b v h6 sg6 io6 hv hk hR6 hs6 ho6 hf6
          have hb : b = 12 := by omega
          subst hb
          have h19 : io6 19 = nI (px_cf S (sg 20) 12).1 := hs6.2.2 19 (by decide) (by decide) (by decide)
          refine jj_go C 2 rfl ?_
          refine jj_if C rfl (fun _ => ?_) (fun z => absurd (by rw [hv]; decide) z)
          refine jj_go C 1 rfl ?_
          refine jj_getf C rfl fl_MO_250 hR6.oy rfl ?_
          refine jj_top h19 ?_
          exact jj_iret C rfl rfl rfl (Nat.le_of_ble_eq_true rfl) (Nat.le_of_ble_eq_true rfl) ⟨hf6, (fun q => by rw [hsok] at q; cases q), fun _ => ⟨rfl, ⟨_, _, _, hR6, hs6⟩⟩⟩
        | succ k ih =>
          intro b v h6 sg6 io6 hv hk hR6 hs6 ho6 hf6
          have hlt : b < 12 := by omega
          have hcl := px_cf_le (S := S) (F := sg 20) b
          have hcs : px_cf S (sg 20) (b + 1) = if S b = true then ((px_cf S (sg 20) b).1 + 1, upd (px_cf S (sg 20) b).2 (px_cf S (sg 20) b).1 (nI b)) else px_cf S (sg 20) b := rfl
          have h19 : io6 19 = nI (px_cf S (sg 20) b).1 := hs6.2.2 19 (by decide) (by decide) (by decide)
          have s2 : sg6 2 = sg 2 := hs6.2.1 2 (by decide) (by decide)
          have s3 : sg6 3 = sg 3 := hs6.2.1 3 (by decide) (by decide)
          have s4 : sg6 4 = sg 4 := hs6.2.1 4 (by decide) (by decide)
          have hE6 : rr_E sg6 b = rr_E sg b := by
            unfold rr_E
            rw [s3, s4]
          have skip : S b = false → ∀ (h7 : jjHp) (sg7 : Nat → Nat → Int32) (io7 : Nat → Int32), RR aC h7 y ad rh4 sg7 mu io7 → sc (jr_up (jr_up rh 33 []) 30 (px_fo tt)) (va_up sg 20 (px_cf S (sg 20) b).2) (upd io 19 (nI (px_cf S (sg 20) b).1)) rh4 sg7 io7 → io7 22 = jb_I (px_pl tt).2.2 → jj_fr (rr_S y ad) h h7 → jj_J p l e (jj_rm 7 0 0) s m args below meth cc D base 3 (MQ below (jj_Q D base (fun q h' => jj_fr (rr_S y ad) h h' ∧ (px_sok tt (sg 5) x = false → q = some (.int (px_sno (sg 5) x)) ∧ RX aC h' y ad (jr_up rh 33 []) sg mu io) ∧ (px_sok tt (sg 5) x = true → q = some (.int (nI (px_cf S (sg 20) 12).1)) ∧ RX aC h' y ad (jr_up (jr_up rh 33 []) 30 (px_fo tt)) (va_up sg 20 (px_cf S (sg 20) 12).2) mu (upd io 19 (nI (px_cf S (sg 20) 12).1))))) args s 0 0 (jj_A base)) 115 [(0, .ref y), (1, .int x), (2, .int v)] [] h7 0 0 := by
            intro hSb h7 sg7 io7 hR7 hs7 ho7 hf7
            rw [if_neg (by rw [hSb]; decide)] at hcs
            refine jj_go C 2 rfl ?_
            exact ih (b + 1) (v + 1) h7 sg7 io7 (by rw [hv, nI_1]) (by omega) hR7 (by rw [hcs]; exact hs7) ho7 hf7
          have choose : S b = true → ∀ (h7 : jjHp) (sg7 : Nat → Nat → Int32) (io7 : Nat → Int32), RR aC h7 y ad rh4 sg7 mu io7 → sc (jr_up (jr_up rh 33 []) 30 (px_fo tt)) (va_up sg 20 (px_cf S (sg 20) b).2) (upd io 19 (nI (px_cf S (sg 20) b).1)) rh4 sg7 io7 → io7 22 = jb_I (px_pl tt).2.2 → jj_fr (rr_S y ad) h h7 → jj_J p l e (jj_rm 7 0 0) s m args below meth cc D base 3 (MQ below (jj_Q D base (fun q h' => jj_fr (rr_S y ad) h h' ∧ (px_sok tt (sg 5) x = false → q = some (.int (px_sno (sg 5) x)) ∧ RX aC h' y ad (jr_up rh 33 []) sg mu io) ∧ (px_sok tt (sg 5) x = true → q = some (.int (nI (px_cf S (sg 20) 12).1)) ∧ RX aC h' y ad (jr_up (jr_up rh 33 []) 30 (px_fo tt)) (va_up sg 20 (px_cf S (sg 20) 12).2) mu (upd io 19 (nI (px_cf S (sg 20) 12).1))))) args s 0 0 (jj_A base)) 95 [(0, .ref y), (1, .int x), (2, .int v)] [] h7 0 0 := by
            intro hSb h7 sg7 io7 hR7 hs7 ho7 hf7
            rw [if_pos hSb] at hcs
            have h19 : io7 19 = nI (px_cf S (sg 20) b).1 := hs7.2.2 19 (by decide) (by decide) (by decide)
            have s20 : sg7 20 = (px_cf S (sg 20) b).2 := hs7.2.1 20 (by decide) (by decide)
            generalize (px_cf S (sg 20) b).1 = cn at hcs h19 hcl hs7
            generalize (px_cf S (sg 20) b).2 = cF at hcs s20 hs7
            refine jj_go C 1 rfl ?_
            refine jj_getf C rfl fl_MO_65 hR7.oy rfl ?_
            refine jj_go C 1 rfl ?_
            refine jj_getf C rfl fl_MO_250 hR7.oy rfl ?_
            refine jj_top h19 ?_
            refine jj_go C 1 rfl ?_
            rw [hv]
            refine jj_iast C (n := 12) (f := (sg7 20)) (j := cn) rfl (hR7.oc (k := 20) (by decide) (by decide) (by decide)) rfl (by omega) (by decide) ?_
            have hR8 := hR7.set (k := 20) (by decide) (by decide) (by decide) (upd (sg7 20) cn (nI b))
            have hf8 := hf7.up (a := ad 20) (x := .inl (aC (rr_ty 20), rr_len 20, .inl (upd (sg7 20) cn (nI b)))) (Or.inl (rr_S_k (by decide)))
            generalize hh8 : (jj_up h7 (ad 20) (.inl (aC (rr_ty 20), rr_len 20, .inl (upd (sg7 20) cn (nI b))))) = h8 at hR8 hf8
            refine jj_eq (h' := h8) rfl rfl rfl hh8 ?_
            rw [s20] at hR8
            have hs8 := hs7.set 20 (upd cF cn (nI b))
            refine jj_go C 2 rfl ?_
            refine jj_getf C rfl fl_MO_250 hR8.oy rfl ?_
            refine jj_top h19 ?_
            refine jj_go C 2 rfl ?_
            refine jj_top (nI_1 cn) ?_
            refine jj_putf C rfl fl_MO_250 hR8.oy rfl rfl (Nat.le_of_ble_eq_true rfl) ?_
            have hR9 : RR aC (jj_up h8 y (.inr (9, (rr_fs ad io7).set 19 (.int (nI (cn + 1)))))) y ad rh4 (va_up sg7 20 (upd cF cn (nI b))) mu (upd io7 19 (nI (cn + 1))) := hR8.put rfl
            have hf9 : jj_fr (rr_S y ad) h (jj_up h8 y (.inr (9, (rr_fs ad io7).set 19 (.int (nI (cn + 1)))))) := hf8.up (Or.inl rr_S_y)
            generalize (jj_up h8 y (.inr (9, (rr_fs ad io7).set 19 (.int (nI (cn + 1)))))) = h9 at hR9 hf9 ⊢
            have hs9 := hs8.put 19 (nI (cn + 1))
            rw [bx_uu] at hs9
            refine jj_go C 2 rfl ?_
            refine ih (b + 1) (nI b + 1) h9 _ _ (nI_1 b) (by omega) hR9 ?_ ho7 hf9
            rw [hcs]
            refine ⟨hs9.1, hs9.2.1, fun q a1 a2 a3 => ?_⟩
            rw [hs9.2.2 q a1 a2 a3]
            unfold upd
            split <;> rfl
          refine jj_go C 2 rfl ?_
          refine jj_if C rfl (fun z => absurd z (by rw [hv]; exact nI_ge (b := 12) hlt (by decide))) (fun _ => ?_)
          refine jj_go C 1 rfl ?_
          refine jj_getf C rfl fl_MO_17 hR6.oy rfl ?_
          refine jj_go C 1 rfl ?_
          refine jj_zald C (n := 12) (f := sg6 2) rfl (hR6.oc (k := 2) (by decide) (by decide) (by decide)) hv hlt (by decide) ?_
          refine jj_if C rfl (fun z => ?_) (fun z => ?_)
          · rw [s2] at z
            exact skip (hS0 b hlt z) h6 sg6 io6 hR6 hs6 ho6 hf6
          · rw [s2] at z
            obtain ⟨hn1, hn2⟩ := hnn b hlt z
            refine jj_go C 2 rfl ?_
            rw [hv] at skip choose ⊢
            refine jj_callV C rfl ml_MO_253 wd_1153 hR6.oy rfl se_MO_MO_fits (rr_fits (b := b) (tt := tt) (nn := nn b) hR6 hlt e32 hpa (by rw [hrh4 b (by omega)]; exact hn1) hn2 ho6 rfl) (rest := []) rfl rfl ⟨Nat.le_of_ble_eq_true rfl, Nat.le_of_ble_eq_true rfl⟩ (Nat.le_of_ble_eq_true rfl) (Nat.le_of_ble_eq_true rfl) (Nat.le_of_ble_eq_true rfl) ?_
            rintro q9 h9 ⟨rfl, hh9⟩
            rw [hh9]
            cases hfit : px_fit tt (nn b) with
            | false =>
              refine jj_if C rfl (fun _ => ?_) (fun z => absurd rfl z)
              refine jj_go C 1 rfl ?_
              exact skip (hS1 b hlt z hfit) h6 sg6 io6 hR6 hs6 ho6 hf6
            | true =>
              refine jj_if C rfl (fun z => absurd z (by decide)) (fun _ => ?_)
              refine jj_go C 2 rfl ?_
              refine jj_if C rfl (fun zx => ?_) (fun zx => ?_)
              · exact choose (hS2 zx b hlt z hfit) h6 sg6 io6 hR6 hs6 ho6 hf6
              · have hxa : px_at 6 (px_b (sg 5)) x = true := by
                  rw [show (x == -1) = false from beq_eq_false_iff_ne.mpr zx, Bool.false_or] at hx
                  exact hx
                obtain ⟨n, f, j0, k0, A, hn6, hxn, hq, hct, hSA⟩ := hQ zx hxa
                have hSb := hSA b hlt z hfit
                subst hxn
                refine jj_go C 4 rfl ?_
                refine jj_top (show (18 : Int32) + nI n = nI (18 + n) from nI_add 18 n) ?_
                refine jj_go C 1 rfl ?_
                refine jj_callV C rfl ml_MO_247 wd_1120 hR6.oy rfl se_MO_MO_truth (rr_truth (r := 18 + n) (bn := b) (AA := A (rr_E sg b)) hR6 (by omega) hlt (by rw [s2]; exact z) (by rw [hrh4 (18 + n) (by omega)]; exact hq) (by rw [hrh4 (18 + n) (by omega)]; exact hct) (by rw [hE6])) (rest := []) rfl rfl ⟨Nat.le_of_ble_eq_true rfl, Nat.le_of_ble_eq_true rfl⟩ (Nat.le_of_ble_eq_true rfl) (Nat.le_of_ble_eq_true rfl) (Nat.le_of_ble_eq_true rfl) ?_
                rintro q9 h7 ⟨rfl, ⟨F1, F2, F3, F4, io7, hR7, hi7⟩, hf7⟩
                have hf7 := hf6.tr hf7
                have hs7 := hs6.qm F1 F2 F3 F4 hi7
                have ho7 : io7 22 = jb_I (px_pl tt).2.2 := (hi7 22 (by decide) (by decide)).trans ho6
                have hle := hq.le2 (rr_E sg b)
                refine jj_go C 1 rfl ?_
                refine jj_if C rfl (fun z2 => ?_) (fun z2 => ?_)
                · have g := (nI_eq (a := A (rr_E sg b)) (b := 1) (by omega) (by decide)).mp z2
                  rw [g] at hSb
                  exact choose hSb h7 _ io7 hR7 hs7 ho7 hf7
                · have g : ¬ A (rr_E sg b) = 1 := fun q => z2 (by rw [q]; rfl)
                  rw [beq_eq_false_iff_ne.mpr g] at hSb
                  exact skip hSb h7 _ io7 hR7 hs7 ho7 hf7
      refine jj_go C 2 rfl ?_
      refine loop 12 0 0 h5 sg4 io5 nI_0.symm rfl hR5 ?_ h22 hf5
      refine ⟨hs5.1, fun q a1 a2 => ?_, hs5.2.2⟩
      rw [hs5.2.1 q a1 a2]
      show sg q = va_up sg 20 (sg 20) q
      rw [rr_up_same]
  refine jj_go C 2 rfl ?_
  refine jj_if C rfl (fun z => ?_) (fun z => ?_)
  · exact cont (by rw [z]; rfl)
  · refine jj_go C 2 rfl ?_
    refine jj_callV C rfl ml_MO_244 wd_1116 hR1.oy rfl se_MO_MO_isAsked (rr_isAsked (x := x) hR1) (rest := []) rfl rfl ⟨Nat.le_of_ble_eq_true rfl, Nat.le_of_ble_eq_true rfl⟩ (Nat.le_of_ble_eq_true rfl) (Nat.le_of_ble_eq_true rfl) (Nat.le_of_ble_eq_true rfl) ?_
    rintro q9 h9 ⟨rfl, hh9⟩
    rw [hh9]
    cases ha : px_at 6 (px_b (sg 5)) x with
    | false =>
      have hx : (x == -1 || px_at 6 (px_b (sg 5)) x) = false := by
        rw [ha, show (x == -1) = false from beq_eq_false_iff_ne.mpr z]
        rfl
      have hsok : px_sok tt (sg 5) x = false := by
        unfold px_sok
        rw [hx, Bool.false_and]
      have hsno : px_sno (sg 5) x = -2 := if_neg (by rw [hx]; decide)
      refine jj_if C rfl (fun _ => ?_) (fun z => absurd rfl z)
      refine jj_go C 1 rfl ?_
      exact jj_iret C rfl rfl rfl (Nat.le_of_ble_eq_true rfl) (Nat.le_of_ble_eq_true rfl) ⟨hf1, (fun _ => ⟨by rw [hsno], ⟨_, _, _, hR1, hs1⟩⟩), fun q => by rw [hsok] at q; cases q⟩
    | true =>
      refine jj_if C rfl (fun z => absurd z (by decide)) (fun _ => ?_)
      exact cont (by rw [ha, Bool.or_true])
end MSE
