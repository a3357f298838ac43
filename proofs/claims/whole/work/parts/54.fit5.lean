/-! The reference: property -/
/-- where the property of a key starts, from k on -/
def px_prf (t : List Nat) (c key : Nat) : Nat → Nat → Option Nat
  | 0, _ => none
  | n + 1, k => if (k = c ∨ t.getD (k - 1) 0 = 44) ∧ t.getD k 0 = 97 + key then some k else px_prf t c key n (k + 1)
def px_pr (t : List Nat) (key : Nat) : Option Nat := px_prf t (px_col t + 1) key (t.length - (px_col t + 1)) (px_col t + 1)
section MPR
variable {l : Launch} {D : va_G} {aC : Nat → ClassId} {base : Nat} {h : jjHp} {y : Nat} {ad : Nat → Nat} {rh : Nat → List Nat} {sg : Nat → Nat → Int32} {mu : Nat → Int64} {io : Nat → Int32}
theorem rr_property {r key : Nat} (hR : RR aC h y ad rh sg mu io) (hr : r < 34) (hkey : key < 26) : jj_Ct l D aC base yn_MO_property yb_MO_property 6 (some .int) 2 0 0 [.ref y, .int (nI r), .int (nI key)] h (fun q h' => q = some (.int (px_oi (px_pr (rh r) key))) ∧ h' = h) := by
  obtain ⟨hlen, hch⟩ := hR.len hr
  have hcl := px_col_le (rh r)
  refine jj_start (tb := tb_MO_property) (by decide) tg_MO_property (Nat.le_of_ble_eq_true rfl) ?_
  intro p e s m args below meth cc C
  obtain ⟨hy, f0, f1, hne, L, S, g0, g1, hRR⟩ := hR.oT
  have r1 := (hRR r hr).1
  have loop : ∀ (n k : Nat) (v : Int32), v = nI k → (k + n = (rh r).length ∨ (n = 0 ∧ (rh r).length ≤ k)) → px_col (rh r) + 1 ≤ k → k ≤ 62 → px_prf (rh r) (px_col (rh r) + 1) key n k = px_pr (rh r) key → jj_J p l e (jj_rm 2 0 0) s m args below meth cc D base 6 (MQ below (jj_Q D base (fun q h' => q = some (.int (px_oi (px_pr (rh r) key))) ∧ h' = h)) args s 0 0 (jj_A base)) 11 [(0, .ref y), (1, .int (nI r)), (2, .int (nI key)), (3, .int (nI (px_col (rh r) + 1))), (4, .int v)] [] h 0 0 := by
    intro n
    induction n with
    | zero =>
      intro k v hv hk hck hk2 hG
      have hG : none = px_pr (rh r) key := hG
      refine jj_go C 2 rfl ?_
      refine jj_getf C rfl fl_MO_13 hy f1 ?_
      refine jj_go C 1 rfl ?_
      refine jj_iald C rfl g1 rfl hr (by decide) ?_
      refine jj_top r1 ?_
      refine jj_if C rfl (fun _ => ?_) (fun z => absurd (by rw [hv]; exact nI_le (by omega) (by omega)) z)
      refine jj_go C 1 rfl ?_
      exact jj_iret C rfl rfl rfl (Nat.le_of_ble_eq_true rfl) (Nat.le_of_ble_eq_true rfl) ⟨by rw [← hG]; rfl, rfl⟩
    | succ n ih =>
      intro k v hv hk hck hk2 hG
      have hlt : k < (rh r).length := by omega
      have hG : (if (k = px_col (rh r) + 1 ∨ (rh r).getD (k - 1) 0 = 44) ∧ (rh r).getD k 0 = 97 + key then some k else px_prf (rh r) (px_col (rh r) + 1) key n (k + 1)) = px_pr (rh r) key := hG
      have hck1 := hch (k - 1)
      have hck0 := hch k
      have miss : ∀ v5 : Int32, ¬ ((k = px_col (rh r) + 1 ∨ (rh r).getD (k - 1) 0 = 44) ∧ (rh r).getD k 0 = 97 + key) → jj_J p l e (jj_rm 2 0 0) s m args below meth cc D base 6 (MQ below (jj_Q D base (fun q h' => q = some (.int (px_oi (px_pr (rh r) key))) ∧ h' = h)) args s 0 0 (jj_A base)) 71 [(0, .ref y), (1, .int (nI r)), (2, .int (nI key)), (3, .int (nI (px_col (rh r) + 1))), (4, .int v), (5, .int v5)] [] h 0 0 := by
        intro v5 hno
        rw [if_neg hno] at hG
        refine jj_go C 2 rfl ?_
        refine jj_less (lc' := [(0, .ref y), (1, .int (nI r)), (2, .int (nI key)), (3, .int (nI (px_col (rh r) + 1))), (4, .int (v + 1))]) (fun q hq => List.mem_append_left [_] hq) (Nat.le_refl _) (Nat.le_refl _) ?_
        exact ih (k + 1) (v + 1) (by rw [hv, nI_1]) (by omega) (by omega) (by omega) hG
      have begins : (k = px_col (rh r) + 1 ∨ (rh r).getD (k - 1) 0 = 44) → jj_J p l e (jj_rm 2 0 0) s m args below meth cc D base 6 (MQ below (jj_Q D base (fun q h' => q = some (.int (px_oi (px_pr (rh r) key))) ∧ h' = h)) args s 0 0 (jj_A base)) 42 [(0, .ref y), (1, .int (nI r)), (2, .int (nI key)), (3, .int (nI (px_col (rh r) + 1))), (4, .int v)] [] h 0 0 := by
        intro hb
        refine jj_go C 4 rfl ?_
        refine jj_if C rfl (fun z => absurd z (by decide)) (fun _ => ?_)
        refine jj_go C 3 rfl ?_
        refine jj_callV C rfl ml_MO_83 wd_988 hy rfl se_MO_MO_get1 (rr_get1 (x := v) hR hr) (rest := []) rfl rfl ⟨Nat.le_of_ble_eq_true rfl, Nat.le_of_ble_eq_true rfl⟩ (Nat.le_of_ble_eq_true rfl) (Nat.le_of_ble_eq_true rfl) (Nat.le_of_ble_eq_true rfl) ?_
        rintro q9 h9 ⟨rfl, hh9⟩
        rw [hh9]
        have eg : jr_g (rh r) v = (rh r).getD k 0 := by rw [hv, jr_g_n (by omega)]
        rw [eg]
        refine jj_go C 3 rfl ?_
        refine jj_top (show (97 : Int32) + nI key = nI (97 + key) from nI_add 97 key) ?_
        refine jj_if C rfl (fun z => ?_) (fun z => miss _ (fun q => z (by rw [q.2])))
        have g := (nI_eq (a := (rh r).getD k 0) (b := 97 + key) (by omega) (by omega)).mp z
        rw [if_pos ⟨hb, g⟩] at hG
        subst hv
        refine jj_go C 1 rfl ?_
        exact jj_iret C rfl rfl rfl (Nat.le_of_ble_eq_true rfl) (Nat.le_of_ble_eq_true rfl) ⟨by rw [← hG]; rfl, rfl⟩
      refine jj_go C 2 rfl ?_
      refine jj_getf C rfl fl_MO_13 hy f1 ?_
      refine jj_go C 1 rfl ?_
      refine jj_iald C rfl g1 rfl hr (by decide) ?_
      refine jj_top r1 ?_
      refine jj_if C rfl (fun z => absurd z (by rw [hv]; exact nI_ge hlt (by omega))) (fun _ => ?_)
      refine jj_go C 2 rfl ?_
      refine jj_if C rfl (fun z => ?_) (fun z => ?_)
      · rw [hv] at z
        exact begins (Or.inl ((nI_eq (a := k) (b := px_col (rh r) + 1) (by omega) (by omega)).mp z))
      · have hnk : ¬ k = px_col (rh r) + 1 := fun q => z (by rw [hv, q])
        refine jj_go C 5 rfl ?_
        refine jj_top (show v - 1 = nI (k - 1) by rw [hv]; exact pk_sub (b := 1) (by omega)) ?_
        refine jj_callV C rfl ml_MO_83 wd_988 hy rfl se_MO_MO_get1 (rr_get1 (x := nI (k - 1)) hR hr) (rest := []) rfl rfl ⟨Nat.le_of_ble_eq_true rfl, Nat.le_of_ble_eq_true rfl⟩ (Nat.le_of_ble_eq_true rfl) (Nat.le_of_ble_eq_true rfl) (Nat.le_of_ble_eq_true rfl) ?_
        rintro q9 h9 ⟨rfl, hh9⟩
        rw [hh9]
        rw [jr_g_n (by omega)]
        refine jj_go C 1 rfl ?_
        refine jj_if C rfl (fun z2 => ?_) (fun z2 => ?_)
        · exact begins (Or.inr ((nI_eq (a := (rh r).getD (k - 1) 0) (b := 44) (by omega) (by decide)).mp z2))
        · have g : ¬ (rh r).getD (k - 1) 0 = 44 := fun q => z2 (by rw [q]; rfl)
          refine jj_go C 3 rfl ?_
          refine jj_if C rfl (fun _ => ?_) (fun z => absurd rfl z)
          exact miss _ (fun q => by rcases q.1 with q | q; exact hnk q; exact g q)
  refine jj_go C 2 rfl ?_
  refine jj_callV C rfl ml_MO_110 wd_996 hy rfl se_MO_MO_colon (mo_colon hR.oT hr) (rest := []) rfl rfl ⟨Nat.le_of_ble_eq_true rfl, Nat.le_of_ble_eq_true rfl⟩ (Nat.le_of_ble_eq_true rfl) (Nat.le_of_ble_eq_true rfl) (Nat.le_of_ble_eq_true rfl) ?_
  rintro q9 h9 ⟨rfl, hh9⟩
  rw [hh9]
  refine jj_go C 2 rfl ?_
  refine jj_top (nI_1 _) ?_
  refine jj_go C 3 rfl ?_
  refine loop ((rh r).length - (px_col (rh r) + 1)) (px_col (rh r) + 1) _ rfl (by omega) (Nat.le_refl _) (by omega) rfl
end MPR
