/-! The class's Log: give -/
def lg_fs (la : Nat → Nat) (n nx : Nat) (g li : Int32) : List Value := [.ref (la 0), .ref (la 1), .ref (la 2), .ref (la 3), .int (nI n), .int (nI nx), .int g, .int li]
/-- a Log whose latest n notices are those of log, latest first -/
def LGR (aC : Nat → ClassId) (h : jjHp) (lg : Nat) (la : Nat → Nat) (log : Nat → Int32) (n : Nat) (g li : Int32) : Prop := ∃ (nx : Nat) (F : Nat → Nat → Int32), nx < 16 ∧ n ≤ 16 ∧ h lg = some (.inr (2, lg_fs la n nx g li)) ∧ (∀ w, w < 4 → h (la w) = some (.inl (aC 0, 16, .inl (F w)))) ∧ (∀ i j, i < 4 → j < 4 → la i = la j → i = j) ∧ ∀ k w, k < n → w < 4 → F w ((nx + 15 - k) % 16) = log (4 * k + w)
theorem lg_rem : ∀ nx, nx < 16 → nI nx + 1 - (nI nx + 1) / 16 * 16 = nI ((nx + 1) % 16) := by decide
theorem lg_min : ∀ n, n < 17 → (if 16 < nI n + 1 then 16 else nI n + 1) = nI (min (n + 1) 16) := by decide
section LG
variable {l : Launch} {D : va_G} {aC : Nat → ClassId} {base : Nat} {h : jjHp} {lg : Nat} {la : Nat → Nat} {log : Nat → Int32} {n : Nat} {g li : Int32}
def lg_S (lg : Nat) (la : Nat → Nat) : List Nat := [lg, la 0, la 1, la 2, la 3]
theorem lg_S_w {w : Nat} (hw : w < 4) : la w ∈ lg_S lg la := by
  unfold lg_S
  match w, hw with
  | 0, _ => simp
  | 1, _ => simp
  | 2, _ => simp
  | 3, _ => simp
/-- an array of the Log gets another content -/
theorem lg_set {nx : Nat} {F : Nat → Nat → Int32} {fs : List Value} (hd : ∀ i j, i < 4 → j < 4 → la i = la j → i = j) (ho : h lg = some (.inr (2, fs))) (hc : ∀ w, w < 4 → h (la w) = some (.inl (aC 0, 16, .inl (F w)))) {w : Nat} (hw : w < 4) (f : Nat → Int32) : (jj_up h (la w) (.inl (aC 0, 16, .inl f))) lg = some (.inr (2, fs)) ∧ ∀ i, i < 4 → (jj_up h (la w) (.inl (aC 0, 16, .inl f))) (la i) = some (.inl (aC 0, 16, .inl (va_up F w f i))) := by
  refine ⟨?_, fun i hi => ?_⟩
  · rw [jj_up_n (fun q => ?_)]
    · exact ho
    · rw [q, hc w hw] at ho
      cases ho
  · by_cases hiw : i = w
    · subst hiw
      rw [jj_up_s]
      simp [va_up]
    · rw [jj_up_n (fun q => hiw (hd i w hi hw q)), hc i hi]
      simp [va_up, hiw]
theorem lg_give_f {k s0 v0 : Int32} (hL : LGR aC h lg la log n g li) (hg : (li >>> (k &&& 31)) &&& 1 = 0) : jj_Ct l D aC base yn_LG_give yb_LG_give 4 none 1 0 0 [.ref lg, .int k, .int s0, .int v0] h (fun q h' => q = none ∧ LGR aC h' lg la log n (g + 1) li ∧ jj_fr (lg_S lg la) h h') := by
  refine jj_start (tb := tb_LG_give) (by decide) tg_LG_give (Nat.le_of_ble_eq_true rfl) ?_
  intro p e s m args below meth cc C
  obtain ⟨nx, F, hnx, hn, ho, hc, hd, hr⟩ := hL
  refine jj_go C 2 rfl ?_
  refine jj_getf C rfl fl_LG_31 ho rfl ?_
  refine jj_go C 2 rfl ?_
  refine jj_putf C rfl fl_LG_31 ho rfl rfl (Nat.le_of_ble_eq_true rfl) ?_
  have hne : ∀ w, w < 4 → la w ≠ lg := fun w hw q => by rw [← q, hc w hw] at ho; cases ho
  have ho1 : (jj_up h lg (.inr (2, lg_fs la n nx (g + 1) li))) lg = some (.inr (2, lg_fs la n nx (g + 1) li)) := jj_up_s
  refine jj_eq (h' := jj_up h lg (.inr (2, lg_fs la n nx (g + 1) li))) rfl rfl rfl rfl ?_
  refine jj_go C 1 rfl ?_
  refine jj_getf C rfl fl_LG_34 ho1 rfl ?_
  refine jj_go C 4 rfl ?_
  refine jj_if C rfl (fun _ => ?_) (fun z => absurd hg z)
  exact jj_vret C rfl rfl (Nat.le_of_ble_eq_true rfl) (Nat.le_of_ble_eq_true rfl) ⟨rfl, ⟨nx, F, hnx, hn, ho1, fun w hw => (jj_up_n (hne w hw)).trans (hc w hw), hd, hr⟩, jj_fr.rf.up (Or.inl List.mem_cons_self)⟩
theorem lg_give_t {k s0 v0 : Int32} (hL : LGR aC h lg la log n g li) (hg : ¬ (li >>> (k &&& 31)) &&& 1 = 0) : jj_Ct l D aC base yn_LG_give yb_LG_give 4 none 1 0 0 [.ref lg, .int k, .int s0, .int v0] h (fun q h' => q = none ∧ LGR aC h' lg la (gv_log log (g + 1) k s0 v0) (min (n + 1) 16) (g + 1) li ∧ jj_fr (lg_S lg la) h h') := by
  refine jj_start (tb := tb_LG_give) (by decide) tg_LG_give (Nat.le_of_ble_eq_true rfl) ?_
  intro p e s m args below meth cc C
  obtain ⟨nx, F, hnx, hn, ho, hc, hd, hr⟩ := hL
  refine jj_go C 2 rfl ?_
  refine jj_getf C rfl fl_LG_31 ho rfl ?_
  refine jj_go C 2 rfl ?_
  refine jj_putf C rfl fl_LG_31 ho rfl rfl (Nat.le_of_ble_eq_true rfl) ?_
  have hne : ∀ w, w < 4 → la w ≠ lg := fun w hw q => by rw [← q, hc w hw] at ho; cases ho
  have ho1 : (jj_up h lg (.inr (2, lg_fs la n nx (g + 1) li))) lg = some (.inr (2, lg_fs la n nx (g + 1) li)) := jj_up_s
  have hc1 : ∀ w, w < 4 → (jj_up h lg (.inr (2, lg_fs la n nx (g + 1) li))) (la w) = some (.inl (aC 0, 16, .inl (F w))) := fun w hw => (jj_up_n (hne w hw)).trans (hc w hw)
  have hf1 : jj_fr (lg_S lg la) h (jj_up h lg (.inr (2, lg_fs la n nx (g + 1) li))) := jj_fr.rf.up (Or.inl List.mem_cons_self)
  refine jj_eq (h' := jj_up h lg (.inr (2, lg_fs la n nx (g + 1) li))) rfl rfl rfl rfl ?_
  generalize (jj_up h lg (.inr (2, lg_fs la n nx (g + 1) li))) = h1 at ho1 hc1 hf1 ⊢
  refine jj_go C 1 rfl ?_
  refine jj_getf C rfl fl_LG_34 ho1 rfl ?_
  refine jj_go C 4 rfl ?_
  refine jj_if C rfl (fun z => absurd z hg) (fun _ => ?_)
  refine jj_go C 1 rfl ?_
  refine jj_getf C rfl fl_LG_9 ho1 rfl ?_
  refine jj_go C 1 rfl ?_
  refine jj_getf C rfl fl_LG_28 ho1 rfl ?_
  refine jj_go C 1 rfl ?_
  refine jj_getf C rfl fl_LG_31 ho1 rfl ?_
  refine jj_iast C (n := 16) (f := F 0) (j := nx) rfl (hc1 0 (by decide)) rfl hnx (by decide) ?_
  obtain ⟨ho2, hc2⟩ := lg_set (nx := nx) hd ho1 hc1 (w := 0) (by decide) (upd (F 0) nx (g + 1))
  have hf2 := hf1.up (a := la 0) (x := .inl (aC 0, 16, .inl (upd (F 0) nx (g + 1)))) (Or.inl (lg_S_w (by decide)))
  generalize (jj_up h1 (la 0) (.inl (aC 0, 16, .inl (upd (F 0) nx (g + 1))))) = h2 at ho2 hc2 hf2 ⊢
  refine jj_go C 1 rfl ?_
  refine jj_getf C rfl fl_LG_15 ho2 rfl ?_
  refine jj_go C 1 rfl ?_
  refine jj_getf C rfl fl_LG_28 ho2 rfl ?_
  refine jj_go C 1 rfl ?_
  refine jj_iast C (n := 16) (f := F 1) (j := nx) rfl (hc2 1 (by decide)) rfl hnx (by decide) ?_
  obtain ⟨ho3, hc3⟩ := lg_set (nx := nx) hd ho2 hc2 (w := 1) (by decide) (upd (F 1) nx k)
  have hf3 := hf2.up (a := la 1) (x := .inl (aC 0, 16, .inl (upd (F 1) nx k))) (Or.inl (lg_S_w (by decide)))
  generalize (jj_up h2 (la 1) (.inl (aC 0, 16, .inl (upd (F 1) nx k)))) = h3 at ho3 hc3 hf3 ⊢
  refine jj_go C 1 rfl ?_
  refine jj_getf C rfl fl_LG_18 ho3 rfl ?_
  refine jj_go C 1 rfl ?_
  refine jj_getf C rfl fl_LG_28 ho3 rfl ?_
  refine jj_go C 1 rfl ?_
  refine jj_iast C (n := 16) (f := F 2) (j := nx) rfl (hc3 2 (by decide)) rfl hnx (by decide) ?_
  obtain ⟨ho4, hc4⟩ := lg_set (nx := nx) hd ho3 hc3 (w := 2) (by decide) (upd (F 2) nx s0)
  have hf4 := hf3.up (a := la 2) (x := .inl (aC 0, 16, .inl (upd (F 2) nx s0))) (Or.inl (lg_S_w (by decide)))
  generalize (jj_up h3 (la 2) (.inl (aC 0, 16, .inl (upd (F 2) nx s0)))) = h4 at ho4 hc4 hf4 ⊢
  refine jj_go C 1 rfl ?_
  refine jj_getf C rfl fl_LG_21 ho4 rfl ?_
  refine jj_go C 1 rfl ?_
  refine jj_getf C rfl fl_LG_28 ho4 rfl ?_
  refine jj_go C 1 rfl ?_
  refine jj_iast C (n := 16) (f := F 3) (j := nx) rfl (hc4 3 (by decide)) rfl hnx (by decide) ?_
  obtain ⟨ho5, hc5⟩ := lg_set (nx := nx) hd ho4 hc4 (w := 3) (by decide) (upd (F 3) nx v0)
  have hf5 := hf4.up (a := la 3) (x := .inl (aC 0, 16, .inl (upd (F 3) nx v0))) (Or.inl (lg_S_w (by decide)))
  generalize (jj_up h4 (la 3) (.inl (aC 0, 16, .inl (upd (F 3) nx v0)))) = h5 at ho5 hc5 hf5 ⊢
  refine jj_go C 2 rfl ?_
  refine jj_getf C rfl fl_LG_28 ho5 rfl ?_
  refine jj_go C 3 rfl ?_
  refine jj_irem C rfl (by decide) ?_
  refine jj_top (lg_rem nx hnx) ?_
  refine jj_putf C rfl fl_LG_28 ho5 rfl rfl (Nat.le_of_ble_eq_true rfl) ?_
  have ho6 : (jj_up h5 lg (.inr (2, lg_fs la n ((nx + 1) % 16) (g + 1) li))) lg = some (.inr (2, lg_fs la n ((nx + 1) % 16) (g + 1) li)) := jj_up_s
  refine jj_eq (h' := jj_up h5 lg (.inr (2, lg_fs la n ((nx + 1) % 16) (g + 1) li))) rfl rfl rfl rfl ?_
  have hc6 : ∀ w, w < 4 → (jj_up h5 lg (.inr (2, lg_fs la n ((nx + 1) % 16) (g + 1) li))) (la w) = _ := fun w hw => (jj_up_n (hne w hw)).trans (hc5 w hw)
  have hf6 := hf5.up (a := lg) (x := .inr (2, lg_fs la n ((nx + 1) % 16) (g + 1) li)) (Or.inl List.mem_cons_self)
  generalize (jj_up h5 lg (.inr (2, lg_fs la n ((nx + 1) % 16) (g + 1) li))) = h6 at ho6 hc6 hf6 ⊢
  refine jj_go C 2 rfl ?_
  refine jj_getf C rfl fl_LG_24 ho6 rfl ?_
  refine jj_go C 3 rfl ?_
  refine jj_mmin C rfl wd_513 wd_181 wd_9 wd_182 (Nat.le_of_ble_eq_true rfl) (Nat.le_of_ble_eq_true rfl) (Nat.le_of_ble_eq_true rfl) (Nat.le_of_ble_eq_true rfl) ?_
  refine jj_top (lg_min n (by omega)) ?_
  refine jj_putf C rfl fl_LG_24 ho6 rfl rfl (Nat.le_of_ble_eq_true rfl) ?_
  refine jj_vret C rfl rfl (Nat.le_of_ble_eq_true rfl) (Nat.le_of_ble_eq_true rfl) ⟨rfl, ⟨(nx + 1) % 16, va_up (va_up (va_up (va_up F 0 (upd (F 0) nx (g + 1))) 1 (upd (F 1) nx k)) 2 (upd (F 2) nx s0)) 3 (upd (F 3) nx v0), by omega, by omega, jj_up_s, fun w hw => (jj_up_n (hne w hw)).trans (hc6 w hw), hd, fun k9 w hk hw => ?_⟩, hf6.up (Or.inl List.mem_cons_self)⟩
  have key : ∀ (f : Nat → Int32) (v : Int32), upd f nx v (((nx + 1) % 16 + 15 - k9) % 16) = if k9 = 0 then v else f ((nx + 15 - (k9 - 1)) % 16) := by
    intro f v
    unfold upd
    by_cases h0 : k9 = 0
    · rw [if_pos h0, if_pos (by omega)]
    · rw [if_neg h0, if_neg (by omega)]
      congr 1
      omega
  have old : ∀ w, w < 4 → ¬ k9 = 0 → F w ((nx + 15 - (k9 - 1)) % 16) = gv_log log (g + 1) k s0 v0 (4 * k9 + w) := by
    intro w hw h0
    rw [hr (k9 - 1) w (by omega) hw]
    unfold gv_log
    rw [if_neg (by omega), if_neg (by omega), if_neg (by omega), if_neg (by omega), if_pos (by omega)]
    congr 1
    omega
  match w, hw with
  | 0, _ =>
    show upd (F 0) nx (g + 1) _ = _
    rw [key]
    by_cases h0 : k9 = 0
    · rw [if_pos h0, h0]
      rfl
    · rw [if_neg h0]
      exact old 0 (by decide) h0
  | 1, _ =>
    show upd (F 1) nx k _ = _
    rw [key]
    by_cases h0 : k9 = 0
    · rw [if_pos h0, h0]
      rfl
    · rw [if_neg h0]
      exact old 1 (by decide) h0
  | 2, _ =>
    show upd (F 2) nx s0 _ = _
    rw [key]
    by_cases h0 : k9 = 0
    · rw [if_pos h0, h0]
      rfl
    · rw [if_neg h0]
      exact old 2 (by decide) h0
  | 3, _ =>
    show upd (F 3) nx v0 _ = _
    rw [key]
    by_cases h0 : k9 = 0
    · rw [if_pos h0, h0]
      rfl
    · rw [if_neg h0]
      exact old 3 (by decide) h0
end LG
