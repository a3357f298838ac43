/-! The simple steps: a method's instructions as a table that is read by evaluation. -/
abbrev jjEnt : Type := Instr × Nat × Nat × Int32
abbrev jjTab : Type := List (Nat × jjEnt)
abbrev jjLoc : Type := List (Nat × Value)
def jj_len : Instr → Nat
  | .aload _ => 2 | .astore _ => 2 | .iload _ => 2 | .istore _ => 2 | .lload _ => 2 | .lstore _ => 2 | .bipush _ => 2 | .ldc _ => 2 | .newarray _ => 2
  | .sipush _ => 3 | .iinc _ _ => 3 | .goto _ => 3 | .ifCond _ _ => 3 | .if_icmp _ _ => 3 | .if_acmp _ _ => 3 | .ifnull _ => 3 | .ifnonnull _ => 3
  | .getfield _ => 3 | .putfield _ => 3 | .getstatic _ => 3 | .putstatic _ => 3 | .new _ => 3 | .anewarray _ => 3 | .invokespecial _ => 3 | .invokestatic _ => 3 | .invokevirtual _ => 3
  | .checkcast _ => 3 | .instanceof _ => 3 | .ldc_w _ => 3 | .ldc2_w _ => 3
  | _ => 1
def jj_off : Instr → Option Int
  | .goto o => some o | .ifCond _ o => some o | .if_icmp _ o => some o | .if_acmp _ o => some o | .ifnull o => some o | .ifnonnull o => some o
  | _ => none
def jj_kv : Instr → Int32
  | .iconst n => Int32.ofInt n
  | .bipush n => (Int8.ofInt n).toInt32
  | .sipush n => (Int16.ofInt n).toInt32
  | .iinc _ n => Int32.ofInt n
  | _ => 0
def jj_topl : Instr → Nat
  | .istore k => k + 1 | .astore k => k + 1 | .iinc k _ => k + 1
  | .istore_n k => k.val + 1 | .astore_n k => k.val + 1
  | .lstore k => k + 2 | .lstore_n k => k.val + 2
  | _ => 0
def jj_tgt (pc : Nat) (i : Instr) (tg : Nat) : Bool := match jj_off i with
  | some o => decide ((pc : Int) + o = (tg : Int))
  | none => true
def jj_ok (cc : ByteArray) (nL : Nat) (q : Nat × jjEnt) : Bool :=
  decide (decode cc q.1 = .ok (q.2.1, jj_len q.2.1)) && (decide (q.2.2.1 = q.1 + jj_len q.2.1) && (jj_tgt q.1 q.2.1 q.2.2.2.1 && (decide (jj_kv q.2.1 = q.2.2.2.2) && decide (jj_topl q.2.1 ≤ nL))))
def jj_look : jjTab → Nat → Option jjEnt
  | [], _ => none
  | (k, e) :: r, pc => match Nat.beq k pc with
    | true => some e
    | false => jj_look r pc
theorem jj_look_mem {tb : jjTab} {pc : Nat} {e : jjEnt} (h : jj_look tb pc = some e) : (pc, e) ∈ tb := by
  induction tb with
  | nil => cases h
  | cons q r ih =>
    obtain ⟨k, e1⟩ := q
    unfold jj_look at h
    split at h
    next hb =>
      have hk : k = pc := Nat.eq_of_beq_eq_true hb
      subst hk
      cases h
      exact List.mem_cons_self
    next => exact List.mem_cons_of_mem _ (ih h)
def jj_good (cc : ByteArray) (nL : Nat) (tb : jjTab) : Prop := tb.all (jj_ok cc nL) = true
theorem jj_good_at {cc : ByteArray} {nL : Nat} {tb : jjTab} (hg : jj_good cc nL tb) {pc : Nat} {i : Instr} {nx tg : Nat} {kv : Int32} (h : jj_look tb pc = some (i, nx, tg, kv)) :
    decode cc pc = .ok (i, jj_len i) ∧ nx = pc + jj_len i ∧ (∀ o, jj_off i = some o → (pc : Int) + o = (tg : Int)) ∧ jj_kv i = kv ∧ jj_topl i ≤ nL := by
  have h1 := List.all_eq_true.mp hg _ (jj_look_mem h)
  unfold jj_ok at h1
  simp only [Bool.and_eq_true, decide_eq_true_eq] at h1
  obtain ⟨a1, a2, a3, a4, a5⟩ := h1
  refine ⟨a1, a2, fun o ho => ?_, a4, a5⟩
  unfold jj_tgt at a3
  rw [ho] at a3
  exact of_decide_eq_true a3
def jj_get : jjLoc → Nat → Option Value
  | [], _ => none
  | (k, v) :: r, i => match Nat.beq k i with
    | true => some v
    | false => jj_get r i
theorem jj_get_mem {l : jjLoc} {i : Nat} {v : Value} (h : jj_get l i = some v) : (i, v) ∈ l := by
  induction l with
  | nil => cases h
  | cons q r ih =>
    obtain ⟨k, e1⟩ := q
    unfold jj_get at h
    split at h
    next hb =>
      have hk : k = i := Nat.eq_of_beq_eq_true hb
      subst hk
      cases h
      exact List.mem_cons_self
    next => exact List.mem_cons_of_mem _ (ih h)
def jj_ins (i : Nat) (v : Value) : jjLoc → jjLoc
  | [] => [(i, v)]
  | (k, w) :: r => match Nat.ble i k with
    | true => (i, v) :: (k, w) :: r
    | false => (k, w) :: jj_ins i v r
theorem jj_ins_mem {i : Nat} {v : Value} {l : jjLoc} {q : Nat × Value} (h : q ∈ jj_ins i v l) : q ∈ (i, v) :: l := by
  induction l with
  | nil => exact h
  | cons a r ih =>
    obtain ⟨k, w⟩ := a
    unfold jj_ins at h
    split at h
    next => exact h
    next =>
      rcases List.mem_cons.mp h with h | h
      · subst h
        exact List.mem_cons_of_mem _ List.mem_cons_self
      · rcases List.mem_cons.mp (ih h) with h | h
        · subst h
          exact List.mem_cons_self
        · exact List.mem_cons_of_mem _ (List.mem_cons_of_mem _ h)
def jj_set1 (i : Nat) (v : Value) (l : jjLoc) : jjLoc := jj_ins i v (l.filter (fun q => !(q.1 == i) && !(q.1 + 1 == i && q.2.category == 2)))
def jj_set2 (i : Nat) (v : Value) (l : jjLoc) : jjLoc := jj_ins i v (l.filter (fun q => !(q.1 == i) && (!(q.1 == i + 1) && !(q.1 + 1 == i && q.2.category == 2))))
theorem jj_has_of {ls : Array Slot} {n : Nat} {l l' : jjLoc} (h : lv_has ls n l) (hs : ∀ q ∈ l', q ∈ l) : lv_has ls n l' := ⟨h.1, h.2.1, fun q hq => h.2.2 q (hs q hq)⟩
def jj_one : Value → Bool
  | .long _ => false
  | .double _ => false
  | _ => true
theorem jj_one_cat {v : Value} (h : jj_one v = true) : v.category = 1 := by cases v <;> first | rfl | cases h
def jj_step (e : jjEnt) (lc : jjLoc) (st : List Value) : Option (Nat × jjLoc × List Value) := match e with
  | (i, nx, tg, kv) => match i with
    | .iconst _ => some (nx, lc, .int kv :: st)
    | .bipush _ => some (nx, lc, .int kv :: st)
    | .sipush _ => some (nx, lc, .int kv :: st)
    | .lconst n => some (nx, lc, .long (Int64.ofNat (n : Nat)) :: st)
    | .aconst_null => some (nx, lc, .null :: st)
    | .iload_n k => match jj_get lc k.val with
      | some (.int x) => some (nx, lc, .int x :: st)
      | _ => none
    | .iload k => match jj_get lc k with
      | some (.int x) => some (nx, lc, .int x :: st)
      | _ => none
    | .lload_n k => match jj_get lc k.val with
      | some (.long x) => some (nx, lc, .long x :: st)
      | _ => none
    | .lload k => match jj_get lc k with
      | some (.long x) => some (nx, lc, .long x :: st)
      | _ => none
    | .aload_n k => match jj_get lc k.val with
      | some (.ref x) => some (nx, lc, .ref x :: st)
      | some .null => some (nx, lc, .null :: st)
      | _ => none
    | .aload k => match jj_get lc k with
      | some (.ref x) => some (nx, lc, .ref x :: st)
      | some .null => some (nx, lc, .null :: st)
      | _ => none
    | .istore_n k => match st with
      | .int x :: r => some (nx, jj_set1 k.val (.int x) lc, r)
      | _ => none
    | .istore k => match st with
      | .int x :: r => some (nx, jj_set1 k (.int x) lc, r)
      | _ => none
    | .lstore_n k => match st with
      | .long x :: r => some (nx, jj_set2 k.val (.long x) lc, r)
      | _ => none
    | .lstore k => match st with
      | .long x :: r => some (nx, jj_set2 k (.long x) lc, r)
      | _ => none
    | .astore_n k => match st with
      | .ref x :: r => some (nx, jj_set1 k.val (.ref x) lc, r)
      | .null :: r => some (nx, jj_set1 k.val .null lc, r)
      | _ => none
    | .astore k => match st with
      | .ref x :: r => some (nx, jj_set1 k (.ref x) lc, r)
      | .null :: r => some (nx, jj_set1 k .null lc, r)
      | _ => none
    | .iinc k _ => match jj_get lc k with
      | some (.int x) => some (nx, jj_set1 k (.int (x + kv)) lc, st)
      | _ => none
    | .goto _ => some (tg, lc, st)
    | .ifnull _ => match st with
      | .ref _ :: r => some (nx, lc, r)
      | .null :: r => some (tg, lc, r)
      | _ => none
    | .ifnonnull _ => match st with
      | .ref _ :: r => some (tg, lc, r)
      | .null :: r => some (nx, lc, r)
      | _ => none
    | .iadd => match st with
      | .int y :: .int x :: r => some (nx, lc, .int (x + y) :: r)
      | _ => none
    | .isub => match st with
      | .int y :: .int x :: r => some (nx, lc, .int (x - y) :: r)
      | _ => none
    | .imul => match st with
      | .int y :: .int x :: r => some (nx, lc, .int (x * y) :: r)
      | _ => none
    | .iand => match st with
      | .int y :: .int x :: r => some (nx, lc, .int (x &&& y) :: r)
      | _ => none
    | .ior => match st with
      | .int y :: .int x :: r => some (nx, lc, .int (x ||| y) :: r)
      | _ => none
    | .ixor => match st with
      | .int y :: .int x :: r => some (nx, lc, .int (x ^^^ y) :: r)
      | _ => none
    | .ishl => match st with
      | .int y :: .int x :: r => some (nx, lc, .int (x <<< (y &&& 31)) :: r)
      | _ => none
    | .ishr => match st with
      | .int y :: .int x :: r => some (nx, lc, .int (x >>> (y &&& 31)) :: r)
      | _ => none
    | .ladd => match st with
      | .long y :: .long x :: r => some (nx, lc, .long (x + y) :: r)
      | _ => none
    | .lsub => match st with
      | .long y :: .long x :: r => some (nx, lc, .long (x - y) :: r)
      | _ => none
    | .lmul => match st with
      | .long y :: .long x :: r => some (nx, lc, .long (x * y) :: r)
      | _ => none
    | .lcmp => match st with
      | .long y :: .long x :: r => some (nx, lc, .int (lg_cmp x y) :: r)
      | _ => none
    | .ineg => match st with
      | .int x :: r => some (nx, lc, .int (-x) :: r)
      | _ => none
    | .i2l => match st with
      | .int x :: r => some (nx, lc, .long x.toInt64 :: r)
      | _ => none
    | .i2c => match st with
      | .int x :: r => some (nx, lc, .int (x.toUInt32 % 65536).toInt32 :: r)
      | _ => none
    | .i2b => match st with
      | .int x :: r => some (nx, lc, .int x.toInt8.toInt32 :: r)
      | _ => none
    | .dup => match st with
      | a :: r => match jj_one a with
        | true => some (nx, lc, a :: a :: r)
        | false => none
      | _ => none
    | .pop => match st with
      | a :: r => match jj_one a with
        | true => some (nx, lc, r)
        | false => none
      | _ => none
    | .dup_x1 => match st with
      | a :: b :: r => match jj_one a && jj_one b with
        | true => some (nx, lc, a :: b :: a :: r)
        | false => none
      | _ => none
    | .dup_x2 => match st with
      | a :: b :: d :: r => match jj_one a && (jj_one b && jj_one d) with
        | true => some (nx, lc, a :: b :: d :: a :: r)
        | false => none
      | _ => none
    | .dup2 => match st with
      | a :: b :: r => match jj_one a && jj_one b with
        | true => some (nx, lc, a :: b :: a :: b :: r)
        | false => none
      | _ => none
    | _ => none
def jj_next (tb : jjTab) : Nat × jjLoc × List Value → Option (Nat × jjLoc × List Value)
  | (pc, lc, st) => match jj_look tb pc with
    | some e => jj_step e lc st
    | none => none
def jj_run (tb : jjTab) : Nat → Nat × jjLoc × List Value → Option (Nat × jjLoc × List Value)
  | 0, q => some q
  | n + 1, q => match jj_next tb q with
    | some q' => jj_run tb n q'
    | none => none
/-- a branch on ints: the condition, where it goes if so, where if not, the stack behind it -/
def jj_br (tb : jjTab) (pc : Nat) (st : List Value) : Option (Prop × Nat × Nat × List Value) := match jj_look tb pc with
  | some (i, nx, tg, _) => match i with
    | .ifCond cd _ => match st with
      | .int x :: r => match cd with
        | .eq => some (x = 0, tg, nx, r)
        | .ne => some (x = 0, nx, tg, r)
        | .lt => some (x < 0, tg, nx, r)
        | .ge => some (0 ≤ x, tg, nx, r)
        | .gt => some (0 < x, tg, nx, r)
        | .le => some (x ≤ 0, tg, nx, r)
      | _ => none
    | .if_icmp cd _ => match st with
      | .int y :: .int x :: r => match cd with
        | .eq => some (x = y, tg, nx, r)
        | .ne => some (x = y, nx, tg, r)
        | .lt => some (x < y, tg, nx, r)
        | .ge => some (y ≤ x, tg, nx, r)
        | .gt => some (y < x, tg, nx, r)
        | .le => some (x ≤ y, tg, nx, r)
      | _ => none
    | _ => none
  | none => none
section JJW
variable {p : Program} {l : Launch} {e : Env} {R : Room} {s : State} {m : MethodId} {args : Array Value} {below : List Frame} {meth : Method} {c : Code} {H : Heap} {locs : List Loc} {cells slots : Nat} {Q : State → Prop}
variable {cc : ByteArray} {nL pc pc' : Nat} {tb : jjTab} {lc lc' : jjLoc} {st st' : List Value} {ls : Array Slot}
/-- one simple step, at any heap -/
theorem jj_step_w (hx : p.tables.exec = Jvm.exec) (hb : c.code = cc) {en : jjEnt} (hd : decode cc pc = .ok (en.1, jj_len en.1)) (hn : en.2.1 = pc + jj_len en.1) (ht : ∀ o, jj_off en.1 = some o → (pc : Int) + o = (en.2.2.1 : Int)) (hk : jj_kv en.1 = en.2.2.2) (hm : jj_topl en.1 ≤ nL)
    (hs : jj_step en lc st = some (pc', lc', st')) (hl : lv_has ls nL lc) (k : ∀ ls', lv_has ls' nL lc' → W p l e R s m args below meth c H locs cells slots Q (F0 m pc' ls' st')) : W p l e R s m args below meth c H locs cells slots Q (F0 m pc ls st) := by
  obtain ⟨i, nx, tg, kv⟩ := en
  dsimp only at hd hn ht hk hm
  subst hn
  cases i
  case iconst n => cases hs; exact lv_iconst hx hb hd hk (k ls hl)
  case bipush n => cases hs; exact lv_bipush hx hb hd hk (k ls hl)
  case sipush n => cases hs; exact lv_sipush hx hb hd hk (k ls hl)
  case lconst n => cases hs; exact lv_lconst hx hb hd rfl (k ls hl)
  case aconst_null => cases hs; exact lv_null hx hb hd (k ls hl)
  case iload_n n =>
    dsimp only [jj_step] at hs
    split at hs
    next x hg => cases hs; exact lv_iload_n hx hb hd rfl (hl.2.2 _ (jj_get_mem hg)) (k ls hl)
    next => cases hs
  case iload n =>
    dsimp only [jj_step] at hs
    split at hs
    next x hg => cases hs; exact lv_iload hx hb hd (hl.2.2 _ (jj_get_mem hg)) (k ls hl)
    next => cases hs
  case lload_n n =>
    dsimp only [jj_step] at hs
    split at hs
    next x hg => cases hs; exact lv_lload_n hx hb hd rfl (hl.2.2 _ (jj_get_mem hg)) (k ls hl)
    next => cases hs
  case lload n =>
    dsimp only [jj_step] at hs
    split at hs
    next x hg => cases hs; exact lv_lload hx hb hd (hl.2.2 _ (jj_get_mem hg)) (k ls hl)
    next => cases hs
  case aload_n n =>
    dsimp only [jj_step] at hs
    split at hs
    next x hg => cases hs; exact lv_aload_n hx hb hd rfl (hl.2.2 _ (jj_get_mem hg)) (k ls hl)
    next hg => cases hs; exact lv_aload_nN hx hb hd rfl (hl.2.2 _ (jj_get_mem hg)) (k ls hl)
    next => cases hs
  case aload n =>
    dsimp only [jj_step] at hs
    split at hs
    next x hg => cases hs; exact lv_aload hx hb hd (hl.2.2 _ (jj_get_mem hg)) (k ls hl)
    next hg => cases hs; exact lv_aloadN hx hb hd (hl.2.2 _ (jj_get_mem hg)) (k ls hl)
    next => cases hs
  case istore_n n =>
    dsimp only [jj_step] at hs
    split at hs
    next x r => cases hs; exact lv_istore_n hx hb hd rfl hl hm rfl (fun ls' h' => k ls' (jj_has_of h' (fun q hq => jj_ins_mem hq)))
    next => cases hs
  case istore n =>
    dsimp only [jj_step] at hs
    split at hs
    next x r => cases hs; exact lv_istore hx hb hd hl hm rfl (fun ls' h' => k ls' (jj_has_of h' (fun q hq => jj_ins_mem hq)))
    next => cases hs
  case lstore_n n =>
    dsimp only [jj_step] at hs
    split at hs
    next x r => cases hs; exact lv_lstore_n hx hb hd rfl hl hm rfl (fun ls' h' => k ls' (jj_has_of h' (fun q hq => jj_ins_mem hq)))
    next => cases hs
  case lstore n =>
    dsimp only [jj_step] at hs
    split at hs
    next x r => cases hs; exact lv_lstore hx hb hd hl hm rfl (fun ls' h' => k ls' (jj_has_of h' (fun q hq => jj_ins_mem hq)))
    next => cases hs
  case astore_n n =>
    dsimp only [jj_step] at hs
    split at hs
    next x r => cases hs; exact lv_astore_n hx hb hd rfl hl hm rfl (fun ls' h' => k ls' (jj_has_of h' (fun q hq => jj_ins_mem hq)))
    next r => cases hs; exact lv_astore_nN hx hb hd rfl hl hm rfl (fun ls' h' => k ls' (jj_has_of h' (fun q hq => jj_ins_mem hq)))
    next => cases hs
  case astore n =>
    dsimp only [jj_step] at hs
    split at hs
    next x r => cases hs; exact lv_astore hx hb hd hl hm rfl (fun ls' h' => k ls' (jj_has_of h' (fun q hq => jj_ins_mem hq)))
    next r => cases hs; exact lv_astoreN hx hb hd hl hm rfl (fun ls' h' => k ls' (jj_has_of h' (fun q hq => jj_ins_mem hq)))
    next => cases hs
  case iinc n z =>
    dsimp only [jj_step] at hs
    split at hs
    next x hg =>
      cases hs
      obtain ⟨q, hq⟩ := List.getElem?_of_mem (jj_get_mem hg)
      exact lv_iinc hx hb hd hl hq (by rw [← hk]; rfl) hm rfl (fun ls' h' => k ls' (jj_has_of h' (fun q hq => jj_ins_mem hq)))
    next => cases hs
  case goto o => cases hs; exact lv_goto hx hb hd (ht o rfl) (k ls hl)
  case ifnull o =>
    dsimp only [jj_step] at hs
    split at hs
    next x r => cases hs; exact lv_ifnull hx hb hd (k ls hl)
    next r => cases hs; exact lv_ifnullN hx hb hd (ht o rfl) (k ls hl)
    next => cases hs
  case ifnonnull o =>
    dsimp only [jj_step] at hs
    split at hs
    next x r => cases hs; exact lv_ifnonnull hx hb hd (ht o rfl) (k ls hl)
    next r => cases hs; exact lv_ifnonnullN hx hb hd (k ls hl)
    next => cases hs
  case iadd =>
    dsimp only [jj_step] at hs
    split at hs
    next y x r => cases hs; exact lv_iadd hx hb hd (k ls hl)
    next => cases hs
  case isub =>
    dsimp only [jj_step] at hs
    split at hs
    next y x r => cases hs; exact lv_isub hx hb hd (k ls hl)
    next => cases hs
  case imul =>
    dsimp only [jj_step] at hs
    split at hs
    next y x r => cases hs; exact lv_imul hx hb hd (k ls hl)
    next => cases hs
  case iand =>
    dsimp only [jj_step] at hs
    split at hs
    next y x r => cases hs; exact lv_iand hx hb hd (k ls hl)
    next => cases hs
  case ior =>
    dsimp only [jj_step] at hs
    split at hs
    next y x r => cases hs; exact lv_ior hx hb hd (k ls hl)
    next => cases hs
  case ixor =>
    dsimp only [jj_step] at hs
    split at hs
    next y x r => cases hs; exact lv_ixor hx hb hd (k ls hl)
    next => cases hs
  case ishl =>
    dsimp only [jj_step] at hs
    split at hs
    next y x r => cases hs; exact lv_ishl hx hb hd (k ls hl)
    next => cases hs
  case ishr =>
    dsimp only [jj_step] at hs
    split at hs
    next y x r => cases hs; exact lv_ishr hx hb hd (k ls hl)
    next => cases hs
  case ladd =>
    dsimp only [jj_step] at hs
    split at hs
    next y x r => cases hs; exact lv_ladd hx hb hd (k ls hl)
    next => cases hs
  case lsub =>
    dsimp only [jj_step] at hs
    split at hs
    next y x r => cases hs; exact lv_lsub hx hb hd (k ls hl)
    next => cases hs
  case lmul =>
    dsimp only [jj_step] at hs
    split at hs
    next y x r => cases hs; exact lv_lmul hx hb hd (k ls hl)
    next => cases hs
  case lcmp =>
    dsimp only [jj_step] at hs
    split at hs
    next y x r => cases hs; exact W.lcmp hx hb hd (k ls hl)
    next => cases hs
  case ineg =>
    dsimp only [jj_step] at hs
    split at hs
    next x r => cases hs; exact lv_ineg hx hb hd (k ls hl)
    next => cases hs
  case i2l =>
    dsimp only [jj_step] at hs
    split at hs
    next x r => cases hs; exact lv_i2l hx hb hd rfl (k ls hl)
    next => cases hs
  case i2c =>
    dsimp only [jj_step] at hs
    split at hs
    next x r => cases hs; exact lv_i2c hx hb hd rfl (k ls hl)
    next => cases hs
  case i2b =>
    dsimp only [jj_step] at hs
    split at hs
    next x r => cases hs; exact lv_i2b hx hb hd rfl (k ls hl)
    next => cases hs
  case dup =>
    dsimp only [jj_step] at hs
    split at hs
    next a r =>
      split at hs
      next h1 => cases hs; exact lv_dup hx hb hd (jj_one_cat h1) (k ls hl)
      next => cases hs
    next => cases hs
  case pop =>
    dsimp only [jj_step] at hs
    split at hs
    next a r =>
      split at hs
      next h1 => cases hs; exact lv_pop hx hb hd (jj_one_cat h1) (k ls hl)
      next => cases hs
    next => cases hs
  case dup_x1 =>
    dsimp only [jj_step] at hs
    split at hs
    next a b r =>
      split at hs
      next h1 =>
        cases hs
        simp only [Bool.and_eq_true] at h1
        exact lv_dup_x1 hx hb hd (jj_one_cat h1.1) (jj_one_cat h1.2) (k ls hl)
      next => cases hs
    next => cases hs
  case dup_x2 =>
    dsimp only [jj_step] at hs
    split at hs
    next a b d r =>
      split at hs
      next h1 =>
        cases hs
        simp only [Bool.and_eq_true] at h1
        exact lv_dup_x2 hx hb hd (jj_one_cat h1.1) (jj_one_cat h1.2.1) (jj_one_cat h1.2.2) (k ls hl)
      next => cases hs
    next => cases hs
  case dup2 =>
    dsimp only [jj_step] at hs
    split at hs
    next a b r =>
      split at hs
      next h1 =>
        cases hs
        simp only [Bool.and_eq_true] at h1
        exact lv_dup2_11 hx hb hd (jj_one_cat h1.1) (jj_one_cat h1.2) (k ls hl)
      next => cases hs
    next => cases hs
  all_goals (dsimp only [jj_step] at hs; cases hs)
theorem jj_run_w (hx : p.tables.exec = Jvm.exec) (hb : c.code = cc) (hg : jj_good cc nL tb) (n : Nat) : ∀ {pc : Nat} {lc : jjLoc} {st : List Value} {ls : Array Slot}, jj_run tb n (pc, lc, st) = some (pc', lc', st') → lv_has ls nL lc → (∀ ls', lv_has ls' nL lc' → W p l e R s m args below meth c H locs cells slots Q (F0 m pc' ls' st')) → W p l e R s m args below meth c H locs cells slots Q (F0 m pc ls st) := by
  induction n with
  | zero =>
    intro pc lc st ls h hl k
    cases h
    exact k ls hl
  | succ n ih =>
    intro pc lc st ls h hl k
    unfold jj_run at h
    split at h
    next q' hq =>
      obtain ⟨pc1, lc1, st1⟩ := q'
      dsimp only [jj_next] at hq
      split at hq
      next en he =>
        obtain ⟨i, nx, tg, kv⟩ := en
        obtain ⟨a1, a2, a3, a4, a5⟩ := jj_good_at hg he
        exact jj_step_w hx hb (en := (i, nx, tg, kv)) a1 a2 a3 a4 a5 hq hl (fun ls' h' => ih h h' k)
      next => cases hq
    next => cases h
theorem jj_br_w (hx : p.tables.exec = Jvm.exec) (hb : c.code = cc) (hg : jj_good cc nL tb) {P : Prop} {t1 t2 : Nat} {r : List Value} (hs : jj_br tb pc st = some (P, t1, t2, r))
    (kt : P → W p l e R s m args below meth c H locs cells slots Q (F0 m t1 ls r)) (kf : ¬ P → W p l e R s m args below meth c H locs cells slots Q (F0 m t2 ls r)) : W p l e R s m args below meth c H locs cells slots Q (F0 m pc ls st) := by
  unfold jj_br at hs
  split at hs
  next i nx tg kv he =>
    obtain ⟨a1, a2, a3, a4, a5⟩ := jj_good_at hg he
    subst a2
    split at hs
    next cd o =>
      split at hs
      next x r' =>
        have ht := a3 o rfl
        cases cd
        · cases hs; exact lv_if_eq hx hb a1 ht kt kf
        · cases hs; exact lv_if_ne hx hb a1 ht kf kt
        · cases hs; exact lv_if_lt hx hb a1 ht kt kf
        · cases hs; exact lv_if_ge hx hb a1 ht kt kf
        · cases hs; exact lv_if_gt hx hb a1 ht kt kf
        · cases hs; exact lv_if_le hx hb a1 ht kt kf
      next => cases hs
    next cd o =>
      split at hs
      next y x r' =>
        have ht := a3 o rfl
        cases cd
        · cases hs; exact lv_icmp_eq hx hb a1 ht kt kf
        · cases hs; exact lv_icmp_ne hx hb a1 ht kf kt
        · cases hs; exact lv_icmp_lt hx hb a1 ht kt kf
        · cases hs; exact lv_icmp_ge hx hb a1 ht kt kf
        · cases hs; exact lv_icmp_gt hx hb a1 ht kt kf
        · cases hs; exact lv_icmp_le hx hb a1 ht kt kf
      next => cases hs
    next => cases hs
  next => cases hs
end JJW
