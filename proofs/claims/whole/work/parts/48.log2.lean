/-! The class's Log: told; listen, notice -/
section TS
variable {p : Program} {l : Launch} {e : Env} {R : Room} {s : State} {m : MethodId} {args : Array Value} {below : List Frame} {meth : Method} {c : Code} {Q : State → Prop} {y : MethodName} {cc : ByteArray} {nL : Nat} {ret : Option FieldType} {tb : jjTab} {D : va_G} {aC : Nat → ClassId} {base : Nat}
variable {pc kc ks tgt : Nat} {lc : jjLoc} {st : List Value} {h : jjHp}
theorem jj_tabOut (C : jj_C p s m args meth c y cc nL ret tb D aC base) {dflt lo hi : Int} {offs : Array Int} {len : Nat} {x : Int32} (hdg : decode cc pc = .ok (.tableswitch dflt lo hi offs, len)) (h1 : x.toInt < lo ∨ hi < x.toInt) (ht : (pc : Int) + dflt = (tgt : Int)) (k : jj_J p l e R s m args below meth c D base nL Q tgt lc st h kc ks) : jj_J p l e R s m args below meth c D base nL Q pc lc (.int x :: st) h kc ks :=
  fun H locs ls hw hS hl => lv_tableOut C.1 C.2.1 hdg h1 ht (k H locs ls hw hS hl)
theorem jj_tabIn (C : jj_C p s m args meth c y cc nL ret tb D aC base) {dflt lo hi : Int} {offs : Array Int} {len : Nat} {x : Int32} {off : Int} (hdg : decode cc pc = .ok (.tableswitch dflt lo hi offs, len)) (h1 : ¬ x.toInt < lo) (h2 : ¬ hi < x.toInt) (ho : offs[(x.toInt - lo).toNat]? = some off) (ht : (pc : Int) + off = (tgt : Int)) (k : jj_J p l e R s m args below meth c D base nL Q tgt lc st h kc ks) : jj_J p l e R s m args below meth c D base nL Q pc lc (.int x :: st) h kc ks :=
  fun H locs ls hw hS hl => lv_tableIn C.1 C.2.1 hdg h1 h2 ho ht (k H locs ls hw hS hl)
end TS
def fm_m (x : Int32) : Int32 := if 0 ≤ x ^^^ 16 then x - x / 16 * 16 else if x - x / 16 * 16 = 0 then x - x / 16 * 16 else x - x / 16 * 16 + 16
theorem fm_m_n : ∀ nx, nx < 16 → ∀ k, k < 16 → fm_m (nI nx - 1 - nI k) = nI ((nx + 15 - k) % 16) := by decide +kernel
theorem td_sw : decode yb_LG_told 30 = .ok (.tableswitch 58 0 3 #[30, 37, 44, 51], 30) := by decide +kernel
section LT
variable {l : Launch} {D : va_G} {aC : Nat → ClassId} {base : Nat} {h : jjHp} {lg : Nat} {la : Nat → Nat} {log : Nat → Int32} {n : Nat} {g li : Int32}
theorem kx_floorMod {x : Int32} : jj_Ct l D aC base yn_MA_floorMod yb_MA_floorMod 3 (some .int) 0 0 0 [.int x, .int 16] h (fun q h' => q = some (.int (fm_m x)) ∧ h' = h) := by
  refine jj_startF (tb := tb_MA_floorMod) (by decide +kernel) tg_MA_floorMod (Nat.le_of_ble_eq_true rfl) ?_
  intro p e s m args below meth cc C
  unfold fm_m
  refine jj_go C 2 rfl ?_
  refine jj_irem C rfl (by decide) ?_
  refine jj_go C 4 rfl ?_
  refine jj_if C rfl (fun z => ?_) (fun z => ?_)
  · refine jj_go C 1 rfl ?_
    exact jj_iret C rfl rfl rfl (Nat.le_of_ble_eq_true rfl) (Nat.le_of_ble_eq_true rfl) ⟨by rw [if_pos z], rfl⟩
  · refine jj_go C 1 rfl ?_
    refine jj_if C rfl (fun z2 => ?_) (fun z2 => ?_)
    · refine jj_go C 1 rfl ?_
      exact jj_iret C rfl rfl rfl (Nat.le_of_ble_eq_true rfl) (Nat.le_of_ble_eq_true rfl) ⟨by rw [if_neg z, if_pos z2], rfl⟩
    · refine jj_go C 3 rfl ?_
      exact jj_iret C rfl rfl rfl (Nat.le_of_ble_eq_true rfl) (Nat.le_of_ble_eq_true rfl) ⟨by rw [if_neg z, if_neg z2], rfl⟩
theorem lg_told {x w : Int32} (hL : LGR aC h lg la log n g li) : jj_Ct l D aC base yn_LG_told yb_LG_told 4 (some .int) 1 0 0 [.ref lg, .int x, .int w] h (fun q h' => q = some (.int (if px_at n (fun _ => true) x = true ∧ px_at 4 (fun _ => true) w = true then log (4 * x.toNatClampNeg + w.toNatClampNeg) else -2)) ∧ h' = h) := by
  refine jj_start (tb := tb_LG_told) (by decide) tg_LG_told (Nat.le_of_ble_eq_true rfl) ?_
  intro p e s m args below meth cc C
  obtain ⟨nx, F, hnx, hn, ho, hc, hd, hr⟩ := hL
  have no : ¬ px_at n (fun _ => true) x = true → jj_J p l e (jj_rm 1 0 0) s m args below meth cc D base 4 (MQ below (jj_Q D base (fun q h' => q = some (.int (if px_at n (fun _ => true) x = true ∧ px_at 4 (fun _ => true) w = true then log (4 * x.toNatClampNeg + w.toNatClampNeg) else -2)) ∧ h' = h)) args s 0 0 (jj_A base)) 12 [(0, .ref lg), (1, .int x), (2, .int w)] [] h 0 0 := by
    intro hno
    refine jj_go C 1 rfl ?_
    exact jj_iret C rfl rfl rfl (Nat.le_of_ble_eq_true rfl) (Nat.le_of_ble_eq_true rfl) ⟨by rw [if_neg (fun q => hno q.1)], rfl⟩
  refine jj_go C 1 rfl ?_
  refine jj_if C rfl (fun z => no (by rw [px_at_neg z]; decide)) (fun z => ?_)
  obtain ⟨j, hj, rfl⟩ := nI_of z
  refine jj_go C 2 rfl ?_
  refine jj_getf C rfl fl_LG_24 ho rfl ?_
  refine jj_if C rfl (fun z => ?_) (fun z => no (by rw [px_at_ge (nI_le (Nat.not_lt.mp (fun q => z ((nI_ltI hj (by omega)).mpr q))) hj)]; decide))
  have hlt : j < n := (nI_ltI hj (by omega)).mp z
  have hin : px_at n (fun _ => true) (nI j) = true := px_at_n hlt (by omega)
  rw [nI_clamp hj]
  refine jj_go C 1 rfl ?_
  refine jj_getf C rfl fl_LG_28 ho rfl ?_
  refine jj_go C 5 rfl ?_
  refine jj_callS C rfl ml_LG_43 wd_864 (kx_floorMod (x := nI nx - 1 - nI j)) (rest := []) rfl rfl ⟨(Nat.le_of_ble_eq_true rfl), (Nat.le_of_ble_eq_true rfl)⟩ (Nat.le_of_ble_eq_true rfl) (Nat.le_of_ble_eq_true rfl) (Nat.le_of_ble_eq_true rfl) ?_
  rintro q9 h9 ⟨rfl, hh9⟩
  rw [hh9]
  rw [fm_m_n nx hnx j (by omega)]
  refine jj_go C 2 rfl ?_
  have out : ¬ px_at 4 (fun _ => true) w = true → w.toInt < 0 ∨ 3 < w.toInt → jj_J p l e (jj_rm 1 0 0) s m args below meth cc D base 4 (MQ below (jj_Q D base (fun q h' => q = some (.int (if px_at n (fun _ => true) (nI j) = true ∧ px_at 4 (fun _ => true) w = true then log (4 * j + w.toNatClampNeg) else -2)) ∧ h' = h)) args s 0 0 (jj_A base)) 30 [(0, .ref lg), (1, .int (nI j)), (2, .int w), (3, .int (nI ((nx + 15 - j) % 16)))] [.int w] h 0 0 := by
    intro hno hw
    refine jj_tabOut C (tgt := 88) td_sw hw (by decide) ?_
    refine jj_go C 1 rfl ?_
    exact jj_iret C rfl rfl rfl (Nat.le_of_ble_eq_true rfl) (Nat.le_of_ble_eq_true rfl) ⟨by rw [if_neg (fun q => hno q.2)], rfl⟩
  by_cases hneg : w < 0
  · refine out (by rw [px_at_neg hneg]; decide) (Or.inl ?_)
    have := Int32.lt_iff_toInt_lt.mp hneg
    simpa using this
  obtain ⟨i, hi, rfl⟩ := nI_of hneg
  by_cases hi4 : i < 4
  rotate_left
  · refine out (by rw [px_at_ge (show nI 4 ≤ nI i from nI_le (by omega) hi)]; decide) (Or.inr ?_)
    rw [nI_toInt hi]
    omega
  have hin4 : px_at 4 (fun _ => true) (nI i) = true := px_at_n hi4 (by decide)
  have hval := hr j i hlt hi4
  rw [if_pos ⟨hin, hin4⟩, nI_clamp hi, ← hval]
  match i, hi4 with
  | 0, _ =>
    refine jj_tabIn C (tgt := 60) (off := 30) td_sw (by decide) (by decide) (by decide) (by decide) ?_
    refine jj_go C 1 rfl ?_
    refine jj_getf C rfl fl_LG_9 ho rfl ?_
    refine jj_go C 1 rfl ?_
    refine jj_iald C (n := 16) (f := F 0) rfl (hc 0 (by decide)) rfl (by omega) (by decide) ?_
    exact jj_iret C rfl rfl rfl (Nat.le_of_ble_eq_true rfl) (Nat.le_of_ble_eq_true rfl) ⟨rfl, rfl⟩
  | 1, _ =>
    refine jj_tabIn C (tgt := 67) (off := 37) td_sw (by decide) (by decide) (by decide) (by decide) ?_
    refine jj_go C 1 rfl ?_
    refine jj_getf C rfl fl_LG_15 ho rfl ?_
    refine jj_go C 1 rfl ?_
    refine jj_iald C (n := 16) (f := F 1) rfl (hc 1 (by decide)) rfl (by omega) (by decide) ?_
    exact jj_iret C rfl rfl rfl (Nat.le_of_ble_eq_true rfl) (Nat.le_of_ble_eq_true rfl) ⟨rfl, rfl⟩
  | 2, _ =>
    refine jj_tabIn C (tgt := 74) (off := 44) td_sw (by decide) (by decide) (by decide) (by decide) ?_
    refine jj_go C 1 rfl ?_
    refine jj_getf C rfl fl_LG_18 ho rfl ?_
    refine jj_go C 1 rfl ?_
    refine jj_iald C (n := 16) (f := F 2) rfl (hc 2 (by decide)) rfl (by omega) (by decide) ?_
    exact jj_iret C rfl rfl rfl (Nat.le_of_ble_eq_true rfl) (Nat.le_of_ble_eq_true rfl) ⟨rfl, rfl⟩
  | 3, _ =>
    refine jj_tabIn C (tgt := 81) (off := 51) td_sw (by decide) (by decide) (by decide) (by decide) ?_
    refine jj_go C 1 rfl ?_
    refine jj_getf C rfl fl_LG_21 ho rfl ?_
    refine jj_go C 1 rfl ?_
    refine jj_iald C (n := 16) (f := F 3) rfl (hc 3 (by decide)) rfl (by omega) (by decide) ?_
    exact jj_iret C rfl rfl rfl (Nat.le_of_ble_eq_true rfl) (Nat.le_of_ble_eq_true rfl) ⟨rfl, rfl⟩
end LT
