/-! The class's Counter and Gauge: kindFor, level -/
abbrev ct_fs (lo st : Int32) (M : Int64) (R S T : Int32) (nm : Nat) (att er : Int32) : List Value := [.int lo, .int st, .long M, .int R, .int S, .int T, .ref nm, .int att, .int er]
abbrev ga_fs (lo hi sd : Int32) (nm : Nat) (att er : Int32) : List Value := [.int lo, .int hi, .int sd, .ref nm, .int att, .int er]
theorem i64_0 {x : Int32} : x.toInt64 = 0 ↔ x = 0 := by
  constructor
  · intro h
    have := congrArg Int64.toInt h
    rw [Int32.toInt_toInt64] at this
    exact Int32.toInt_inj.mp this
  · intro h
    rw [h]
    rfl
section CT
variable {l : Launch} {D : va_G} {aC : Nat → ClassId} {base : Nat} {h : jjHp} {c0 nm : Nat} {lo st R S T att er hi sd : Int32} {M : Int64}
theorem ct_level (ho : h c0 = some (.inr (7, ct_fs lo st M R S T nm att er))) : jj_Ct l D aC base yn_CT_level yb_CT_level 1 (some .long) 0 0 0 [.ref c0] h (fun q h' => q = some (.long M) ∧ h' = h) := by
  refine jj_start (tb := tb_CT_level) (by decide) tg_CT_level (Nat.le_of_ble_eq_true rfl) ?_
  intro p e s m args below meth cc C
  refine jj_go C 1 rfl ?_
  refine jj_getf C rfl fl_CT_28 ho rfl ?_
  exact jj_lret C rfl rfl (Nat.le_refl _) (Nat.le_refl _) ⟨rfl, rfl⟩
theorem ga_level (ho : h c0 = some (.inr (8, ga_fs lo hi sd nm att er))) : jj_Ct l D aC base yn_GA_level yb_GA_level 1 (some .long) 0 0 0 [.ref c0] h (fun q h' => q = some (.long sd.toInt64) ∧ h' = h) := by
  refine jj_start (tb := tb_GA_level) (by decide) tg_GA_level (Nat.le_of_ble_eq_true rfl) ?_
  intro p e s m args below meth cc C
  refine jj_go C 1 rfl ?_
  refine jj_getf C rfl fl_GA_9 ho rfl ?_
  refine jj_go C 1 rfl ?_
  exact jj_lret C rfl rfl (Nat.le_refl _) (Nat.le_refl _) ⟨rfl, rfl⟩
theorem ct_firstMarkAbove {v : Int32} (ho : h c0 = some (.inr (7, ct_fs lo st M R S T nm att er))) (hst : ¬ st = 0) : jj_Ct l D aC base yn_CT_firstMarkAbove yb_CT_firstMarkAbove 4 (some .long) 0 0 0 [.ref c0, .int v] h (fun q h' => q = some (.long (lo.toInt64 + st.toInt64 * ((v.toInt64 - lo.toInt64) / st.toInt64 + 1))) ∧ h' = h) := by
  refine jj_start (tb := tb_CT_firstMarkAbove) (by decide) tg_CT_firstMarkAbove (Nat.le_of_ble_eq_true rfl) ?_
  intro p e s m args below meth cc C
  refine jj_go C 3 rfl ?_
  refine jj_getf C rfl fl_CT_22 ho rfl ?_
  refine jj_go C 3 rfl ?_
  refine jj_getf C rfl fl_CT_25 ho rfl ?_
  refine jj_go C 1 rfl ?_
  refine jj_ldiv C rfl (fun q => hst (i64_0.mp q)) ?_
  refine jj_go C 4 rfl ?_
  refine jj_getf C rfl fl_CT_22 ho rfl ?_
  refine jj_go C 3 rfl ?_
  refine jj_getf C rfl fl_CT_25 ho rfl ?_
  refine jj_go C 3 rfl ?_
  exact jj_lret C rfl rfl (Nat.le_refl _) (Nat.le_refl _) ⟨by rw [Int64.mul_comm st.toInt64]; rfl, rfl⟩
theorem ct_kindFor {v : Int32} {N : Bool} {M9 : Int64} {R9 : Int32} (ho : h c0 = some (.inr (7, ct_fs lo st M R S T nm att er))) (hF : cn_f M R S T lo st v = (N, M9, R9)) : jj_Ct l D aC base yn_CT_kindFor yb_CT_kindFor 2 (some .int) 1 0 0 [.ref c0, .int v] h (fun q h' => q = some (.int (if N = true then 2 else -1)) ∧ h' c0 = some (.inr (7, ct_fs lo st M9 R9 1 v nm att er)) ∧ jj_fr [c0] h h') := by
  refine jj_start (tb := tb_CT_kindFor) (by decide) tg_CT_kindFor (Nat.le_of_ble_eq_true rfl) ?_
  intro p e s m args below meth cc C
  have hf0 : jj_fr [c0] h h := jj_fr.rf
  unfold cn_f at hF
  generalize hM1 : (if ¬ S = 0 ∧ v < T then lo.toInt64 else M) = M1 at hF
  generalize hR1 : (if ¬ S = 0 ∧ v < T then 1 else R) = R1 at hF
  generalize hR2 : (if v.toInt64 < M1 then 1 else R1) = R2 at hF
  have late : ∀ h5 : jjHp, h5 c0 = some (.inr (7, ct_fs lo st M1 R2 1 v nm att er)) → jj_fr [c0] h h5 → jj_J p l e (jj_rm 1 0 0) s m args below meth cc D base 2 (MQ below (jj_Q D base (fun q h' => q = some (.int (if N = true then 2 else -1)) ∧ h' c0 = some (.inr (7, ct_fs lo st M9 R9 1 v nm att er)) ∧ jj_fr [c0] h h')) args s 0 0 (jj_A base)) 54 [(0, .ref c0), (1, .int v)] [] h5 0 0 := by
    intro h5 ho5 hf5
    have stop : (R2 = 0 ∨ v.toInt64 < M1) → jj_J p l e (jj_rm 1 0 0) s m args below meth cc D base 2 (MQ below (jj_Q D base (fun q h' => q = some (.int (if N = true then 2 else -1)) ∧ h' c0 = some (.inr (7, ct_fs lo st M9 R9 1 v nm att er)) ∧ jj_fr [c0] h h')) args s 0 0 (jj_A base)) 71 [(0, .ref c0), (1, .int v)] [] h5 0 0 := by
      intro hs
      rw [if_pos hs] at hF
      cases hF
      refine jj_go C 1 rfl ?_
      exact jj_iret C rfl rfl rfl (Nat.le_of_ble_eq_true rfl) (Nat.le_of_ble_eq_true rfl) ⟨rfl, ho5, hf5⟩
    refine jj_go C 1 rfl ?_
    refine jj_getf C rfl fl_CT_9 ho5 rfl ?_
    refine jj_if C rfl (fun z => stop (Or.inl z)) (fun z1 => ?_)
    refine jj_go C 3 rfl ?_
    refine jj_getf C rfl fl_CT_28 ho5 rfl ?_
    refine jj_go C 1 rfl ?_
    refine jj_if C rfl (fun z => ?_) (fun z => stop (Or.inr (Int64.not_le.mp (fun q => z ((lg_cmp_ge _ _).mpr q)))))
    have z2 : ¬ v.toInt64 < M1 := Int64.not_lt.mpr ((lg_cmp_ge _ _).mp z)
    rw [if_neg (fun q => by rcases q with q | q; exact z1 q; exact z2 q)] at hF
    refine jj_go C 1 rfl ?_
    refine jj_getf C rfl fl_CT_25 ho5 rfl ?_
    refine jj_if C rfl (fun z3 => ?_) (fun z3 => ?_)
    · rw [if_pos (i64_0.mpr z3)] at hF
      cases hF
      refine jj_go C 2 rfl ?_
      refine jj_putf C rfl fl_CT_9 ho5 rfl rfl (Nat.le_of_ble_eq_true rfl) ?_
      refine jj_go C 2 rfl ?_
      exact jj_iret C rfl rfl rfl (Nat.le_of_ble_eq_true rfl) (Nat.le_of_ble_eq_true rfl) ⟨rfl, jj_up_s, hf5.up (Or.inl List.mem_cons_self)⟩
    · rw [if_neg (fun q => z3 (i64_0.mp q))] at hF
      cases hF
      refine jj_go C 3 rfl ?_
      refine jj_callV C rfl ml_CT_32 wd_833 ho5 rfl se_CT_CT_firstMarkAbove (ct_firstMarkAbove (v := v) ho5 z3) (rest := [.ref c0]) rfl rfl ⟨Nat.le_of_ble_eq_true rfl, Nat.le_of_ble_eq_true rfl⟩ (Nat.le_of_ble_eq_true rfl) (Nat.le_of_ble_eq_true rfl) (Nat.le_of_ble_eq_true rfl) ?_
      rintro q9 h9 ⟨rfl, hh9⟩
      rw [hh9]
      refine jj_putf C rfl fl_CT_28 ho5 rfl rfl (Nat.le_of_ble_eq_true rfl) ?_
      refine jj_go C 1 rfl ?_
      exact jj_iret C rfl rfl rfl (Nat.le_of_ble_eq_true rfl) (Nat.le_of_ble_eq_true rfl) ⟨rfl, jj_up_s, hf5.up (Or.inl List.mem_cons_self)⟩
  have mid : ∀ h2 : jjHp, h2 c0 = some (.inr (7, ct_fs lo st M1 R1 S T nm att er)) → jj_fr [c0] h h2 → jj_J p l e (jj_rm 1 0 0) s m args below meth cc D base 2 (MQ below (jj_Q D base (fun q h' => q = some (.int (if N = true then 2 else -1)) ∧ h' c0 = some (.inr (7, ct_fs lo st M9 R9 1 v nm att er)) ∧ jj_fr [c0] h h')) args s 0 0 (jj_A base)) 29 [(0, .ref c0), (1, .int v)] [] h2 0 0 := by
    intro h2 ho2 hf2
    refine jj_go C 2 rfl ?_
    refine jj_putf C rfl fl_CT_15 ho2 rfl rfl (Nat.le_of_ble_eq_true rfl) ?_
    have ho3 : (jj_up h2 c0 (.inr (7, ct_fs lo st M1 R1 1 T nm att er))) c0 = some (.inr (7, ct_fs lo st M1 R1 1 T nm att er)) := jj_up_s
    have hf3 := hf2.up (a := c0) (x := .inr (7, ct_fs lo st M1 R1 1 T nm att er)) (Or.inl List.mem_cons_self)
    refine jj_eq (h' := jj_up h2 c0 (.inr (7, ct_fs lo st M1 R1 1 T nm att er))) rfl rfl rfl rfl ?_
    generalize (jj_up h2 c0 (.inr (7, ct_fs lo st M1 R1 1 T nm att er))) = h3 at ho3 hf3 ⊢
    refine jj_go C 2 rfl ?_
    refine jj_putf C rfl fl_CT_18 ho3 rfl rfl (Nat.le_of_ble_eq_true rfl) ?_
    have ho4 : (jj_up h3 c0 (.inr (7, ct_fs lo st M1 R1 1 v nm att er))) c0 = some (.inr (7, ct_fs lo st M1 R1 1 v nm att er)) := jj_up_s
    have hf4 := hf3.up (a := c0) (x := .inr (7, ct_fs lo st M1 R1 1 v nm att er)) (Or.inl List.mem_cons_self)
    refine jj_eq (h' := jj_up h3 c0 (.inr (7, ct_fs lo st M1 R1 1 v nm att er))) rfl rfl rfl rfl ?_
    generalize (jj_up h3 c0 (.inr (7, ct_fs lo st M1 R1 1 v nm att er))) = h4 at ho4 hf4 ⊢
    refine jj_go C 3 rfl ?_
    refine jj_getf C rfl fl_CT_28 ho4 rfl ?_
    refine jj_go C 1 rfl ?_
    refine jj_if C rfl (fun z => ?_) (fun z => ?_)
    · rw [if_neg (Int64.not_lt.mpr ((lg_cmp_ge _ _).mp z))] at hR2
      subst hR2
      exact late h4 ho4 hf4
    · rw [if_pos (Int64.not_le.mp (fun q => z ((lg_cmp_ge _ _).mpr q)))] at hR2
      subst hR2
      refine jj_go C 2 rfl ?_
      refine jj_putf C rfl fl_CT_9 ho4 rfl rfl (Nat.le_of_ble_eq_true rfl) ?_
      exact late _ jj_up_s (hf4.up (Or.inl List.mem_cons_self))
  have keep : ¬ (¬ S = 0 ∧ v < T) → jj_J p l e (jj_rm 1 0 0) s m args below meth cc D base 2 (MQ below (jj_Q D base (fun q h' => q = some (.int (if N = true then 2 else -1)) ∧ h' c0 = some (.inr (7, ct_fs lo st M9 R9 1 v nm att er)) ∧ jj_fr [c0] h h')) args s 0 0 (jj_A base)) 29 [(0, .ref c0), (1, .int v)] [] h 0 0 := by
    intro hn
    rw [if_neg hn] at hM1 hR1
    subst hM1 hR1
    exact mid h ho hf0
  refine jj_go C 1 rfl ?_
  refine jj_getf C rfl fl_CT_15 ho rfl ?_
  refine jj_if C rfl (fun z => keep (fun q => q.1 z)) (fun z1 => ?_)
  refine jj_go C 2 rfl ?_
  refine jj_getf C rfl fl_CT_18 ho rfl ?_
  refine jj_if C rfl (fun z => keep (fun q => absurd q.2 (Int32.not_lt.mpr z))) (fun z => ?_)
  rw [if_pos ⟨z1, Int32.not_le.mp z⟩] at hM1 hR1
  subst hM1 hR1
  refine jj_go C 2 rfl ?_
  refine jj_getf C rfl fl_CT_22 ho rfl ?_
  refine jj_go C 1 rfl ?_
  refine jj_putf C rfl fl_CT_28 ho rfl rfl (Nat.le_of_ble_eq_true rfl) ?_
  have ho1 : (jj_up h c0 (.inr (7, ct_fs lo st lo.toInt64 R S T nm att er))) c0 = some (.inr (7, ct_fs lo st lo.toInt64 R S T nm att er)) := jj_up_s
  have hf1 := hf0.up (a := c0) (x := .inr (7, ct_fs lo st lo.toInt64 R S T nm att er)) (Or.inl List.mem_cons_self)
  refine jj_eq (h' := jj_up h c0 (.inr (7, ct_fs lo st lo.toInt64 R S T nm att er))) rfl rfl rfl rfl ?_
  generalize (jj_up h c0 (.inr (7, ct_fs lo st lo.toInt64 R S T nm att er))) = h1 at ho1 hf1 ⊢
  refine jj_go C 2 rfl ?_
  refine jj_putf C rfl fl_CT_9 ho1 rfl rfl (Nat.le_of_ble_eq_true rfl) ?_
  exact mid _ jj_up_s (hf1.up (Or.inl List.mem_cons_self))
/-- a Gauge looks: which kind, which side -/
def ga_f (sd lo hi v : Int32) : Option (Int32 × Int32) := if ¬ v < hi ∧ ¬ sd = 1 then some (3, 1) else if v ≤ lo ∧ ¬ sd = -1 then some (4, -1) else none
theorem ga_kindFor {v : Int32} (ho : h c0 = some (.inr (8, ga_fs lo hi sd nm att er))) : jj_Ct l D aC base yn_GA_kindFor yb_GA_kindFor 2 (some .int) 0 0 0 [.ref c0, .int v] h (fun q h' => (ga_f sd lo hi v = none ∧ q = some (.int (-1)) ∧ h' = h) ∨ ∃ k sd', ga_f sd lo hi v = some (k, sd') ∧ q = some (.int k) ∧ h' c0 = some (.inr (8, ga_fs lo hi sd' nm att er)) ∧ jj_fr [c0] h h') := by
  refine jj_start (tb := tb_GA_kindFor) (by decide) tg_GA_kindFor (Nat.le_of_ble_eq_true rfl) ?_
  intro p e s m args below meth cc C
  have quiet : ga_f sd lo hi v = none → jj_J p l e (jj_rm 0 0 0) s m args below meth cc D base 2 (MQ below (jj_Q D base (fun q h' => (ga_f sd lo hi v = none ∧ q = some (.int (-1)) ∧ h' = h) ∨ ∃ k sd', ga_f sd lo hi v = some (k, sd') ∧ q = some (.int k) ∧ h' c0 = some (.inr (8, ga_fs lo hi sd' nm att er)) ∧ jj_fr [c0] h h')) args s 0 0 (jj_A base)) 46 [(0, .ref c0), (1, .int v)] [] h 0 0 := by
    intro hq
    refine jj_go C 1 rfl ?_
    exact jj_iret C rfl rfl rfl (Nat.le_of_ble_eq_true rfl) (Nat.le_of_ble_eq_true rfl) (Or.inl ⟨hq, rfl, rfl⟩)
  have low : ¬ (¬ v < hi ∧ ¬ sd = 1) → jj_J p l e (jj_rm 0 0 0) s m args below meth cc D base 2 (MQ below (jj_Q D base (fun q h' => (ga_f sd lo hi v = none ∧ q = some (.int (-1)) ∧ h' = h) ∨ ∃ k sd', ga_f sd lo hi v = some (k, sd') ∧ q = some (.int k) ∧ h' c0 = some (.inr (8, ga_fs lo hi sd' nm att er)) ∧ jj_fr [c0] h h')) args s 0 0 (jj_A base)) 23 [(0, .ref c0), (1, .int v)] [] h 0 0 := by
    intro hn
    refine jj_go C 2 rfl ?_
    refine jj_getf C rfl fl_GA_15 ho rfl ?_
    refine jj_if C rfl (fun z => quiet (by unfold ga_f; rw [if_neg hn, if_neg (fun q => absurd z (Int32.not_lt.mpr q.1))])) (fun z1 => ?_)
    refine jj_go C 1 rfl ?_
    refine jj_getf C rfl fl_GA_9 ho rfl ?_
    refine jj_go C 1 rfl ?_
    refine jj_if C rfl (fun z => quiet (by unfold ga_f; rw [if_neg hn, if_neg (fun q => q.2 z)])) (fun z2 => ?_)
    refine jj_go C 2 rfl ?_
    refine jj_putf C rfl fl_GA_9 ho rfl rfl (Nat.le_of_ble_eq_true rfl) ?_
    refine jj_go C 1 rfl ?_
    exact jj_iret C rfl rfl rfl (Nat.le_of_ble_eq_true rfl) (Nat.le_of_ble_eq_true rfl) (Or.inr ⟨4, -1, by unfold ga_f; rw [if_neg hn, if_pos ⟨Int32.not_lt.mp z1, z2⟩], rfl, jj_up_s, jj_fr.rf.up (Or.inl List.mem_cons_self)⟩)
  refine jj_go C 2 rfl ?_
  refine jj_getf C rfl fl_GA_18 ho rfl ?_
  refine jj_if C rfl (fun z => low (fun q => q.1 z)) (fun z1 => ?_)
  refine jj_go C 1 rfl ?_
  refine jj_getf C rfl fl_GA_9 ho rfl ?_
  refine jj_go C 1 rfl ?_
  refine jj_if C rfl (fun z => low (fun q => q.2 z)) (fun z2 => ?_)
  refine jj_go C 2 rfl ?_
  refine jj_putf C rfl fl_GA_9 ho rfl rfl (Nat.le_of_ble_eq_true rfl) ?_
  refine jj_go C 1 rfl ?_
  exact jj_iret C rfl rfl rfl (Nat.le_of_ble_eq_true rfl) (Nat.le_of_ble_eq_true rfl) (Or.inr ⟨3, 1, by unfold ga_f; rw [if_pos ⟨z1, z2⟩], rfl, jj_up_s, jj_fr.rf.up (Or.inl List.mem_cons_self)⟩)
end CT
