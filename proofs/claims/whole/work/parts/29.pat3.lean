/-! The class's Pattern: copy, separate, ordered -/
section PT4
variable {l : Launch} {D : va_G} {aC : Nat → ClassId} {base : Nat} {h : jjHp} {pt tx txb st en : Nat} {t : List Nat} {Sf Ef : Nat → Int32} {dm op : Int32} {fm : Value}
theorem kx_SB.recv {a b m : Nat} {u : List Nat} (hs : kx_SB aC h a b m u) : ∃ fs, h a = some (.inr (11, fs)) := by
  obtain ⟨ml, f, ho, -⟩ := hs
  exact ⟨_, ho⟩
theorem kt_SB_length {a b m : Nat} {u : List Nat} (hs : kx_SB aC h a b m u) : jj_Ct l D aC base yn_SB_length yb_SB_length 1 (some .int) 1 0 0 [.ref a] h (fun r h' => r = some (.int (nI u.length)) ∧ h' = h) := by
  obtain ⟨ml, f, ho, -⟩ := hs
  exact kx_SB_length ho
theorem pt_at.keep {S : List Nat} {h' : jjHp} (hp : pt_at aC h pt tx txb st en t Sf Ef dm op fm) (hf : jj_fr S h h') (h1 : pt ∉ S) (h2 : tx ∉ S) (h3 : txb ∉ S) (h4 : st ∉ S) (h5 : en ∉ S) : pt_at aC h' pt tx txb st en t Sf Ef dm op fm := by
  obtain ⟨ho, hs, hst, hen, n⟩ := hp
  exact ⟨hf _ _ h1 ho, hs.keep hf h2 h3, hf _ _ h4 hst, hf _ _ h5 hen, n⟩
/-- its cells are none of these -/
def pt_off (pt tx txb st en : Nat) (S : List Nat) : Prop := pt ∉ S ∧ tx ∉ S ∧ txb ∉ S ∧ st ∉ S ∧ en ∉ S
theorem pt_at.keep2 {S : List Nat} {h' : jjHp} (hp : pt_at aC h pt tx txb st en t Sf Ef dm op fm) (hf : jj_fr S h h') (ho : pt_off pt tx txb st en S) : pt_at aC h' pt tx txb st en t Sf Ef dm op fm := hp.keep hf ho.1 ho.2.1 ho.2.2.1 ho.2.2.2.1 ho.2.2.2.2
theorem pt_copy {o b m p n : Nat} {u : List Nat} (hp : pt_at aC h pt tx txb st en t Sf Ef dm op fm) (hs : kx_SB aC h o b m u) (hoff : pt_off pt tx txb st en [o, b]) (hpn : p + n ≤ t.length) (hu : u.length + n ≤ 70) : jj_Ct l D aC base yn_PT_copy yb_PT_copy 5 none 6 n (142 * n) [.ref pt, .int (nI p), .int (nI (p + n)), .ref o] h (fun r h' => r = none ∧ ∃ b' m', kx_SB aC h' o b' m' (u ++ px_seg t p (p + n)) ∧ (b' = b ∨ h b' = none) ∧ jj_fr [o, b] h h') := by
  have hlen : t.length ≤ 60 := hp.2.2.2.2.2.2.2
  refine jj_start (tb := tb_PT_copy) (by decide) tg_PT_copy (Nat.le_of_ble_eq_true rfl) ?_
  intro p0 e s m0 args below meth cc C
  have loop : ∀ (k j : Nat) (v : Int32) (h1 : jjHp) (b1 m1 : Nat), v = nI (p + j) → j + k = n → kx_SB aC h1 o b1 m1 (u ++ px_seg t p (p + j)) → (b1 = b ∨ h b1 = none) → jj_fr [o, b] h h1 →
      jj_J p0 l e (jj_rm 6 n (142 * n)) s m0 args below meth cc D base 5 (MQ below (jj_Q D base (fun r h' => r = none ∧ ∃ b' m', kx_SB aC h' o b' m' (u ++ px_seg t p (p + n)) ∧ (b' = b ∨ h b' = none) ∧ jj_fr [o, b] h h')) args s n (142 * n) (jj_A base)) 3 [(0, .ref pt), (1, .int (nI p)), (2, .int (nI (p + n))), (3, .ref o), (4, .int v)] [] h1 j (142 * j) := by
    intro k
    induction k with
    | zero =>
      intro j v h1 b1 m1 hv hk hs1 hb1 hf1
      have hj : j = n := by omega
      subst hj
      refine jj_go C 2 rfl ?_
      refine jj_if C rfl (fun _ => ?_) (fun z => absurd (by rw [hv]; exact nI_le (Nat.le_refl _) (by omega)) z)
      exact jj_vret C rfl rfl (Nat.le_refl _) (Nat.le_refl _) ⟨rfl, b1, m1, hs1, hb1, hf1⟩
    | succ k ih =>
      intro j v h1 b1 m1 hv hk hs1 hb1 hf1
      have hp1 := hp.keep2 hf1 hoff
      have hp1' := hp1
      obtain ⟨ho, hst, -⟩ := hp1'
      obtain ⟨fs, hrc⟩ := hst.recv
      obtain ⟨fo, hro⟩ := hs1.recv
      have hlt : p + j < t.length := by omega
      refine jj_go C 2 rfl ?_
      refine jj_if C rfl (fun z => absurd z (by rw [hv]; exact nI_ge (by omega) (by omega))) (fun _ => ?_)
      refine jj_go C 2 rfl ?_
      refine jj_getf C rfl fl_PT_32 ho rfl ?_
      refine jj_go C 1 rfl ?_
      refine jj_callV C rfl ml_PT_45 wd_372 hrc rfl se_ST_ST_charAt (As := [.int v]) (by rw [hv]; exact kt_ST_charAt hst hlt (by omega)) (rest := [.ref o]) rfl rfl ⟨Nat.le_of_ble_eq_true rfl, Nat.le_of_ble_eq_true rfl⟩ (show j + 0 ≤ n by omega) (show 142 * j + 0 ≤ 142 * n by omega) (Nat.le_of_ble_eq_true rfl) ?_
      rintro q9 h9 ⟨rfl, hh9⟩
      rw [hh9]
      have hul : (u ++ px_seg t p (p + j)).length ≤ 70 := by
        rw [List.length_append, px_seg_len (by omega)]
        omega
      refine jj_callV C rfl ml_PT_83 wd_145 hro rfl se_SB_SB_append (kt_SB_append hs1 hul (hst.lt (p + j))) (rest := []) rfl rfl ⟨Nat.le_refl _, Nat.le_of_ble_eq_true rfl⟩ (show j + 0 + 1 ≤ n by omega) (show 142 * j + 0 + 142 ≤ 142 * n by omega) (Nat.zero_le _) ?_
      rintro q9 h2 ⟨rfl, b2, m2, hs2, hb2, hf2⟩
      obtain ⟨g1, g2⟩ := jj_sb_tr hf1 hro hb1 hf2 hb2
      rw [List.append_assoc, px_seg_succ (by omega) hlt] at hs2
      refine jj_go C 3 rfl ?_
      have := ih (j + 1) (v + 1) h2 b2 m2 (by rw [hv, nI_1]; rfl) (by omega) hs2 g2 g1
      rw [show 142 * (j + 1) = 142 * j + 0 + 142 by omega] at this
      exact this
  refine jj_go C 2 rfl ?_
  refine loop n 0 _ h b m rfl (by omega) ?_ (Or.inl rfl) jj_fr.rf
  rw [Nat.add_zero, px_seg_nil, List.append_nil]
  exact hs
theorem pt_separate {o b m ls : Nat} {u : List Nat} (hs : kx_SB aC h o b m u) (hu : u.length ≤ 70) (hls : ls ≤ 70) : jj_Ct l D aC base yn_PT_separate yb_PT_separate 2 none 6 1 142 [.int (nI ls), .ref o] h (fun r h' => r = none ∧ ∃ b' m', kx_SB aC h' o b' m' (u ++ (if ls < u.length then [44] else [])) ∧ (b' = b ∨ h b' = none) ∧ jj_fr [o, b] h h') := by
  obtain ⟨fo, hro⟩ := hs.recv
  refine jj_start (tb := tb_PT_separate) (by decide) tg_PT_separate (Nat.le_of_ble_eq_true rfl) ?_
  intro p0 e s m0 args below meth cc C
  refine jj_go C 1 rfl ?_
  refine jj_callV C rfl ml_PT_78 wd_138 hro rfl se_SB_SB_length (kt_SB_length hs) (rest := []) rfl rfl ⟨Nat.le_of_ble_eq_true rfl, Nat.le_of_ble_eq_true rfl⟩ (Nat.zero_le _) (Nat.zero_le _) (Nat.zero_le _) ?_
  rintro q9 h9 ⟨rfl, hh9⟩
  rw [hh9]
  refine jj_go C 1 rfl ?_
  refine jj_if C rfl (fun z => ?_) (fun z => ?_)
  · have g := (nI_leI (a := u.length) (b := ls) (by omega) (by omega)).mp z
    refine jj_vret C rfl rfl (Nat.zero_le _) (Nat.zero_le _) ⟨rfl, b, m, ?_, Or.inl rfl, jj_fr.rf⟩
    rw [if_neg (by omega), List.append_nil]
    exact hs
  · have g : ¬ u.length ≤ ls := fun q9 => z (nI_le q9 (by omega))
    refine jj_go C 2 rfl ?_
    refine jj_callV C rfl ml_PT_83 wd_145 hro rfl se_SB_SB_append (As := [.int 44]) (kt_SB_append (k := 44) hs hu (by decide)) (rest := []) rfl rfl ⟨Nat.le_refl _, Nat.le_of_ble_eq_true rfl⟩ (Nat.le_refl _) (Nat.le_refl _) (Nat.zero_le _) ?_
    rintro q9 h2 ⟨rfl, b2, m2, hs2, hb2, hf2⟩
    refine jj_go C 1 rfl ?_
    refine jj_vret C rfl rfl (Nat.le_refl _) (Nat.le_refl _) ⟨rfl, b2, m2, ?_, hb2, hf2⟩
    rw [if_pos (by omega)]
    exact hs2
end PT4
