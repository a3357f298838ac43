/-! The class's Pattern: parseList against the same px_ls -/
theorem px_ls_pr {t : List Nat} {n p : Nat} {P : Nat → Option Nat} (hs : ¬ (p + 1 = t.length ∧ t.getD p 0 = 42)) : px_ls t true (n + 1) p P = match pk_pr t P p with
    | none => (false, (px_ls t true (n + 1) p P).2.1, false)
    | some E => if E = t.length then (true, va_up P (t.getD p 0 - 97) (some p), false) else if t.getD E 0 = 44 then px_ls t true n (E + 1) (va_up P (t.getD p 0 - 97) (some p)) else (false, va_up P (t.getD p 0 - 97) (some p), false) := by
  conv => lhs; unfold px_ls
  rw [if_neg (fun q => hs q.2)]
  unfold pk_pr
  by_cases h1 : pc_sm (t.getD p 0) = true ∧ t.getD (p + 1) 0 = 61
  · rw [if_pos h1, if_pos h1]
    by_cases h2 : (P (t.getD p 0 - 97)).isSome = true
    · rw [if_pos h2, if_pos h2]
      unfold px_ls
      rw [if_neg (fun q => hs q.2), if_pos h1, if_pos h2]
    · rw [if_neg h2, if_neg h2]
      by_cases h3 : px_re t true (p + 2) < p + 3 ∨ p + 6 < px_re t true (p + 2)
      · rw [if_pos h3, if_pos h3]
        unfold px_ls
        rw [if_neg (fun q => hs q.2), if_pos h1, if_neg h2, if_pos h3]
      · rw [if_neg h3, if_neg h3]
  · rw [if_neg h1, if_neg h1]
    unfold px_ls
    rw [if_neg (fun q => hs q.2), if_neg h1]
theorem px_ls_far {t : List Nat} {n p : Nat} {P : Nat → Option Nat} (hp : t.length ≤ p) : (px_ls t true n p P).1 = false := by
  cases n with
  | zero => rfl
  | succ n =>
    unfold px_ls
    rw [if_neg (fun q => by omega), if_neg (fun q => by rw [px_getD_ge hp] at q; have := pc_sm_i.mp q.1; omega)]
section PT3
variable {l : Launch} {D : va_G} {aC : Nat → ClassId} {base : Nat} {h : jjHp} {pt tx txb st en : Nat} {t : List Nat} {Sf Ef : Nat → Int32} {dm op : Int32} {fm : Value}
set_option maxHeartbeats 4000000 in
theorem pt_parseList {q0 : Nat} (hp : pt_at aC h pt tx txb st en t Sf Ef dm 0 fm) (hfm : ∃ a, fm = .ref a) (hq0 : q0 ≤ 61) (hP0 : px_s t Sf Ef (fun _ => none)) : jj_Ct l D aC base yn_PT_parseList yb_PT_parseList 5 (some .boolean) 6 0 0 [.ref pt, .int (nI q0)] h (fun r h' => r = some (.int (jb_I (px_ls t true 60 q0 (fun _ => none)).1)) ∧ ∃ Sf' Ef' op', pt_at aC h' pt tx txb st en t Sf' Ef' dm op' fm ∧ jj_fr [pt, st, en] h h' ∧ ((px_ls t true 60 q0 (fun _ => none)).1 = true → px_s t Sf' Ef' (px_ls t true 60 q0 (fun _ => none)).2.1 ∧ op' = jb_I (px_ls t true 60 q0 (fun _ => none)).2.2)) := by
  obtain ⟨fa, rfl⟩ := hfm
  have hlen : t.length ≤ 60 := hp.2.2.2.2.2.2.2
  generalize hG : px_ls t true 60 q0 (fun _ => none) = G
  refine jj_start (tb := tb_PT_parseList) (by decide) tg_PT_parseList (Nat.le_of_ble_eq_true rfl) ?_
  intro p e s m args below meth cc C
  have fin : ∀ (h1 : jjHp) (S1 E1 : Nat → Int32) (o1 : Int32) (pc : Nat) (lc : jjLoc) (b : Int32), jj_look tb_PT_parseList pc = some (.ireturn, pc + 1, 0, 0) → b = jb_I G.1 → pt_at aC h1 pt tx txb st en t S1 E1 dm o1 (.ref fa) → jj_fr [pt, st, en] h h1 → (G.1 = true → px_s t S1 E1 G.2.1 ∧ o1 = jb_I G.2.2) →
      jj_J p l e (jj_rm 6 0 0) s m args below meth cc D base 5 (MQ below (jj_Q D base (fun r h' => r = some (.int (jb_I G.1)) ∧ ∃ Sf' Ef' op', pt_at aC h' pt tx txb st en t Sf' Ef' dm op' (.ref fa) ∧ jj_fr [pt, st, en] h h' ∧ (G.1 = true → px_s t Sf' Ef' G.2.1 ∧ op' = jb_I G.2.2))) args s 0 0 (jj_A base)) pc lc [.int b] h1 0 0 := by
    intro h1 S1 E1 o1 pc lc b hl hb hp1 hf hgg
    subst hb
    refine jj_iret C hl rfl ?_ (Nat.le_refl _) (Nat.le_refl _) ⟨rfl, S1, E1, o1, hp1, hf, hgg⟩
    cases G.1 <;> rfl
  have main : ∀ (k q : Nat) (P : Nat → Option Nat) (S1 E1 : Nat → Int32) (h1 : jjHp) (v2 v3 : Int32), v2 = nI q → k ≤ 27 → v3 = nI (27 - k) → q ≤ 61 → 4 * (27 - k) ≤ q → px_s t S1 E1 P → px_ls t true (33 + k) q P = G → pt_at aC h1 pt tx txb st en t S1 E1 dm 0 (.ref fa) → jj_fr [pt, st, en] h h1 →
      jj_J p l e (jj_rm 6 0 0) s m args below meth cc D base 5 (MQ below (jj_Q D base (fun r h' => r = some (.int (jb_I G.1)) ∧ ∃ Sf' Ef' op', pt_at aC h' pt tx txb st en t Sf' Ef' dm op' (.ref fa) ∧ jj_fr [pt, st, en] h h' ∧ (G.1 = true → px_s t Sf' Ef' G.2.1 ∧ op' = jb_I G.2.2))) args s 0 0 (jj_A base)) 4 [(0, .ref pt), (1, .int (nI q0)), (2, .int v2), (3, .int v3)] [] h1 0 0 := by
    intro k
    induction k with
    | zero =>
      intro q P S1 E1 h1 v2 v3 hv2 hk hv3 hq hq4 hP he hp1 hf
      omega
    | succ k ih =>
      intro q P S1 E1 h1 v2 v3 hv2 hk hv3 hq hq4 hP he hp1 hf
      have hp1' := hp1
      obtain ⟨ho, hs, hst, hen, n1, n2, n3, -⟩ := hp1'
      obtain ⟨fs, hrc⟩ := hs.recv
      have hcq := hs.lt q
      refine jj_go C 2 rfl ?_
      refine jj_if C rfl (fun z => absurd z (by rw [hv3]; exact nI_nlt (b := 27 - (k + 1)) (a := 26) (by omega) (by decide))) (fun _ => ?_)
      refine jj_go C 2 rfl ?_
      refine jj_getf C rfl fl_PT_32 ho rfl ?_
      refine jj_callV C rfl ml_PT_39 wd_364 hrc rfl se_ST_ST_length (kt_ST_length hs) (rest := [.int v2]) rfl rfl ⟨Nat.le_of_ble_eq_true rfl, Nat.le_of_ble_eq_true rfl⟩ (Nat.le_refl _) (Nat.le_refl _) (Nat.le_of_ble_eq_true rfl) ?_
      rintro q9 h9 ⟨rfl, hh9⟩
      rw [hh9]
      refine jj_if C rfl (fun z => ?_) (fun z => ?_)
      · rw [hv2] at z
        have g := (nI_leI (a := t.length) (b := q) (by omega) (by omega)).mp z
        have hG1 : G.1 = false := by rw [← he]; exact px_ls_far g
        refine jj_go C 1 rfl ?_
        exact fin h1 S1 E1 0 _ _ _ rfl (by rw [hG1]; rfl) hp1 hf (fun q9 => by rw [hG1] at q9; cases q9)
      rw [hv2] at z
      have g : q < t.length := Nat.not_le.mp (fun q9 => z (nI_le q9 (by omega)))
      refine jj_go C 1 rfl ?_
      refine jj_getf C rfl fl_PT_32 ho rfl ?_
      refine jj_go C 1 rfl ?_
      refine jj_callV C rfl ml_PT_45 wd_372 hrc rfl se_ST_ST_charAt (As := [.int v2]) (by rw [hv2]; exact kt_ST_charAt hs g (by omega)) (rest := []) rfl rfl ⟨Nat.le_of_ble_eq_true rfl, Nat.le_of_ble_eq_true rfl⟩ (Nat.le_refl _) (Nat.le_refl _) (Nat.zero_le _) ?_
      rintro q9 h9 ⟨rfl, hh9⟩
      rw [hh9]
      refine jj_go C 1 rfl ?_
      refine jj_if C rfl (fun z => ?_) (fun z => ?_)
      · -- a star
        have g42 := (nI_eq (b := 42) (by omega) (by decide)).mp z
        refine jj_go C 2 rfl ?_
        refine jj_putf C rfl fl_PT_22 ho rfl rfl (Nat.le_of_ble_eq_true rfl) ?_
        have np1 : st ≠ pt := kx_ne (m := 0) (aC := aC) ho hst
        have np2 : en ≠ pt := kx_ne (m := 0) (aC := aC) ho hen
        have npt : tx ≠ pt := fun q9 => by rw [q9, ho] at hrc; cases hrc
        have npb : txb ≠ pt := by
          obtain ⟨_, _, _, -, hvb, -⟩ := hs
          exact kx_ne (m := 0) (aC := aC) ho hvb
        have hf0 : jj_fr [pt] h1 (jj_up h1 pt (.inr (3, [Value.ref tx, .ref st, .ref en, .int dm, .int 0, .ref fa].set 4 (.int 1)))) := jj_fr.rf.up (Or.inl List.mem_cons_self)
        have hp2 : pt_at aC (jj_up h1 pt (.inr (3, [Value.ref tx, .ref st, .ref en, .int dm, .int 0, .ref fa].set 4 (.int 1)))) pt tx txb st en t S1 E1 dm 1 (.ref fa) := ⟨jj_up_s, hs.keep hf0 (fun q9 => npt (List.mem_singleton.mp q9)) (fun q9 => npb (List.mem_singleton.mp q9)), (jj_up_n np1).trans hst, (jj_up_n np2).trans hen, n1, n2, n3, hlen⟩
        have hf2 := hf.up (a := pt) (x := .inr (3, [Value.ref tx, .ref st, .ref en, .int dm, .int 0, .ref fa].set 4 (.int 1))) (Or.inl List.mem_cons_self)
        generalize (jj_up h1 pt (.inr (3, [Value.ref tx, .ref st, .ref en, .int dm, .int 0, .ref fa].set 4 (.int 1)))) = h2 at hp2 hf2 ⊢
        have hp2' := hp2
        obtain ⟨ho2, hs2, -⟩ := hp2'
        obtain ⟨fs2, hrc2⟩ := hs2.recv
        refine jj_go C 3 rfl ?_
        refine jj_top (show v2 + 1 = nI (q + 1) by rw [hv2, nI_1]) ?_
        refine jj_go C 1 rfl ?_
        refine jj_getf C rfl fl_PT_32 ho2 rfl ?_
        refine jj_callV C rfl ml_PT_39 wd_364 hrc2 rfl se_ST_ST_length (kt_ST_length hs2) (rest := [.int (nI (q + 1))]) rfl rfl ⟨Nat.le_of_ble_eq_true rfl, Nat.le_of_ble_eq_true rfl⟩ (Nat.le_refl _) (Nat.le_refl _) (Nat.le_of_ble_eq_true rfl) ?_
        rintro q9 h9 ⟨rfl, hh9⟩
        rw [hh9]
        rw [show 33 + (k + 1) = (33 + k) + 1 by omega] at he
        unfold px_ls at he
        refine jj_if C rfl (fun z => ?_) (fun z => ?_)
        · have g1 := (nI_eq (a := q + 1) (b := t.length) (by omega) (by omega)).mp z
          rw [if_pos ⟨rfl, g1, g42⟩] at he
          subst he
          refine jj_go C 2 rfl ?_
          exact fin h2 S1 E1 1 _ _ _ rfl rfl hp2 hf2 (fun _ => ⟨hP, rfl⟩)
        · have g1 : ¬ q + 1 = t.length := fun q9 => z (by rw [q9])
          rw [if_neg (fun q9 => g1 q9.2.1), if_neg (fun q9 => by rw [g42] at q9; have := pc_sm_i.mp q9.1; omega)] at he
          subst he
          refine jj_go C 1 rfl ?_
          exact fin h2 S1 E1 1 _ _ _ rfl rfl hp2 hf2 (fun q9 => by cases q9)
      · have g42 : ¬ t.getD q 0 = 42 := fun q9 => z (by rw [q9]; rfl)
        rw [show 33 + (k + 1) = (33 + k) + 1 by omega, px_ls_pr (fun q9 => g42 q9.2)] at he
        refine jj_go C 2 rfl ?_
        refine jj_callV C rfl ml_PT_68 wd_395 ho rfl se_PT_PT_parseProperty (As := [.int v2]) (by rw [hv2]; exact pt_parseProperty hp1 g hP) (rest := []) rfl rfl ⟨Nat.le_refl _, Nat.le_of_ble_eq_true rfl⟩ (Nat.le_refl _) (Nat.le_refl _) (Nat.zero_le _) ?_
        rintro r h2 hpost
        rcases hpost with ⟨E, hE, rfl, S2, E2, hp2, hP2, hf2⟩ | ⟨hE, rfl, hh2⟩
        · rw [hE] at he
          dsimp only at he
          have hEb : q + 3 ≤ E ∧ E ≤ q + 6 ∧ E ≤ 62 := by
            have hm : px_re t true (q + 2) ≤ max (q + 2) t.length := px_end_max _ _
            unfold pk_pr at hE
            split at hE
            · split at hE
              · cases hE
              · split at hE
                · cases hE
                · cases hE
                  omega
            · cases hE
          have hf3 := hf.tr (hf2.mono (T := [pt, st, en]) (fun a ha => List.mem_cons_of_mem _ ha))
          have hp2' := hp2
          obtain ⟨ho2, hs2, -⟩ := hp2'
          obtain ⟨fs2, hrc2⟩ := hs2.recv
          have hcE := hs2.lt E
          refine jj_go C 3 rfl ?_
          refine jj_getf C rfl fl_PT_32 ho2 rfl ?_
          refine jj_callV C rfl ml_PT_39 wd_364 hrc2 rfl se_ST_ST_length (kt_ST_length hs2) (rest := [.int (nI E)]) rfl rfl ⟨Nat.le_of_ble_eq_true rfl, Nat.le_of_ble_eq_true rfl⟩ (Nat.le_refl _) (Nat.le_refl _) (Nat.le_of_ble_eq_true rfl) ?_
          rintro q9 h9 ⟨rfl, hh9⟩
          rw [hh9]
          refine jj_if C rfl (fun z => ?_) (fun z => ?_)
          · have g1 := (nI_eq (a := E) (b := t.length) (by omega) (by omega)).mp z
            rw [if_pos g1] at he
            subst he
            refine jj_go C 1 rfl ?_
            exact fin h2 S2 E2 0 _ _ _ rfl rfl hp2 hf3 (fun _ => ⟨hP2, rfl⟩)
          have g1 : ¬ E = t.length := fun q9 => z (by rw [q9])
          rw [if_neg g1] at he
          have gE : E < t.length := by
            have hm : px_re t true (q + 2) ≤ max (q + 2) t.length := px_end_max _ _
            have hE2 : E = px_re t true (q + 2) := by
              unfold pk_pr at hE
              split at hE
              · split at hE
                · cases hE
                · split at hE
                  · cases hE
                  · exact (Option.some.inj hE).symm
              · cases hE
            omega
          refine jj_go C 1 rfl ?_
          refine jj_if C rfl (fun z => absurd z (nI_pos (by omega))) (fun _ => ?_)
          refine jj_go C 1 rfl ?_
          refine jj_getf C rfl fl_PT_32 ho2 rfl ?_
          refine jj_go C 1 rfl ?_
          refine jj_callV C rfl ml_PT_45 wd_372 hrc2 rfl se_ST_ST_charAt (kt_ST_charAt hs2 gE (by omega)) (rest := []) rfl rfl ⟨Nat.le_of_ble_eq_true rfl, Nat.le_of_ble_eq_true rfl⟩ (Nat.le_refl _) (Nat.le_refl _) (Nat.zero_le _) ?_
          rintro q9 h9 ⟨rfl, hh9⟩
          rw [hh9]
          refine jj_go C 1 rfl ?_
          refine jj_if C rfl (fun z => ?_) (fun z => ?_)
          · have g44 := (nI_eq (b := 44) (by omega) (by decide)).mp z
            rw [if_pos g44] at he
            refine jj_go C 6 rfl ?_
            refine jj_less (lc' := [(0, .ref pt), (1, .int (nI q0)), (2, .int (nI E + 1)), (3, .int (v3 + 1))]) (fun q hq => List.mem_append_left [_] hq) (Nat.le_refl _) (Nat.le_refl _) ?_
            exact ih (E + 1) _ S2 E2 h2 _ _ (nI_1 E) (by omega) (by rw [hv3, nI_1]; congr 1; omega) (by omega) (by omega) hP2 he hp2 hf3
          · have g44 : ¬ t.getD E 0 = 44 := fun q9 => z (by rw [q9]; rfl)
            rw [if_neg g44] at he
            subst he
            refine jj_go C 1 rfl ?_
            exact fin h2 S2 E2 0 _ _ _ rfl rfl hp2 hf3 (fun q9 => by cases q9)
        · rw [hE] at he
          dsimp only at he
          have hG1 : G.1 = false := by rw [← he]
          rw [hh2]
          refine jj_go C 3 rfl ?_
          refine jj_getf C rfl fl_PT_32 ho rfl ?_
          refine jj_callV C rfl ml_PT_39 wd_364 hrc rfl se_ST_ST_length (kt_ST_length hs) (rest := [.int (-1)]) rfl rfl ⟨Nat.le_of_ble_eq_true rfl, Nat.le_of_ble_eq_true rfl⟩ (Nat.le_refl _) (Nat.le_refl _) (Nat.le_of_ble_eq_true rfl) ?_
          rintro q9 h9 ⟨rfl, hh9⟩
          rw [hh9]
          refine jj_if C rfl (fun z => absurd (nI_pos (n := t.length) (by omega)) (by rw [← z]; decide)) (fun _ => ?_)
          refine jj_go C 1 rfl ?_
          refine jj_if C rfl (fun _ => ?_) (fun z => absurd (by decide) z)
          refine jj_go C 1 rfl ?_
          exact fin h1 S1 E1 0 _ _ _ rfl (by rw [hG1]; rfl) hp1 hf (fun q9 => by rw [hG1] at q9; cases q9)
  refine jj_go C 4 rfl ?_
  exact main 27 q0 (fun _ => none) Sf Ef h _ _ rfl (Nat.le_refl _) rfl hq0 (by omega) hP0 hG hp jj_fr.rf
end PT3
