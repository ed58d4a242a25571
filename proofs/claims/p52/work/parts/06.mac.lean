/-- what the check of the code gives -/
theorem q3_ck_spec {k pc len : Nat} {n : Instr} (h : q3_ck k pc = true) (hc : q2_cd k pc = some (n, len)) : ∃ r : Instr, decode (q3_b k) pc = .ok (r, len) ∧ (q3_ln r = 0 ∨ q3_ln r = len) ∧ q3_nm (q2_own k) pc r = some n := by
  unfold q3_ck at h
  rw [hc] at h
  simp only at h
  split at h
  · next r len' e =>
    simp only [Bool.and_eq_true, Bool.or_eq_true, decide_eq_true_eq] at h
    obtain ⟨⟨h1, h2⟩, h3⟩ := h
    have e1 : len = len' := Nat.eq_of_beq_eq_true h1
    rw [← e1] at e
    exact ⟨r, e, h2.imp Nat.eq_of_beq_eq_true Nat.eq_of_beq_eq_true, h3⟩
  · cases h
/-! THE MACHINE OF OURS: instructions in the normal form over cells by number; a call is a run of its own -/
/-- what a cell is: 0 an array of ints, 1 an array of arrays of ints, c + 2 an object of our class c; how long; what it holds -/
abbrev q4_C : Type := Nat × Nat × (Nat → Value)
/-- how many cells there are; the cells. 0 the script, 1 POWERS, 2 FACTORIALS (nobody writes them), from 3 on those made since -/
abbrev q4_M : Type := Nat × (Nat → q4_C)
def q4_put (M : q4_M) (a j : Nat) (v : Value) : q4_M := (M.1, fun k => if k = a then ((M.2 a).1, (M.2 a).2.1, updV (M.2 a).2.2 j v) else M.2 k)
def q4_new (M : q4_M) (x : q4_C) : q4_M := (M.1 + 1, fun k => if k = M.1 then x else M.2 k)
def q4_grid (M : q4_M) (n m : Nat) : q4_M := (M.1 + 1 + n, fun k => if k = M.1 then (1, n, fun j => .ref (M.1 + 1 + j)) else if M.1 < k ∧ k < M.1 + 1 + n then (0, m, fun _ => .int 0) else M.2 k)
def q4_copy (M : q4_M) (a sp b dp n : Nat) : q4_M := (M.1, fun k => if k = b then ((M.2 b).1, (M.2 b).2.1, va_cpy (M.2 a).2.2 (M.2 b).2.2 sp dp n) else M.2 k)
def q4_get (lv : List (Nat × Value)) (i : Nat) : Option Value := (lv.find? (fun q => Nat.beq q.1 i)).map (fun q => q.2)
def q4_st1 (lv : List (Nat × Value)) (i : Nat) (v : Value) : List (Nat × Value) := (i, v) :: lv.filter (fun q => !(q.1 == i) && !(q.1 + 1 == i && q.2.category == 2))
def q4_st2 (lv : List (Nat × Value)) (i : Nat) (v : Value) : List (Nat × Value) := (i, v) :: lv.filter (fun q => !(q.1 == i) && (!(q.1 == i + 1) && !(q.1 + 1 == i && q.2.category == 2)))
def q4_icmp (c : ClassFile.Cond) (x y : Int32) : Bool := match c with
  | .eq => decide (x = y)
  | .ne => !decide (x = y)
  | .lt => decide (x < y)
  | .ge => decide (y ≤ x)
  | .gt => decide (y < x)
  | .le => decide (x ≤ y)
/-- a value that a place of this type takes as it is -/
def q4_fit (t : FieldType) (v : Value) : Bool := match t, v with
  | .int, .int _ => true
  | .boolean, .int x => decide (x = 0) || decide (x = 1)
  | .long, .long _ => true
  | .array _, .ref _ => true
  | .object _, .ref _ => true
  | _, _ => false
def q4_cat (st : List Value) : Nat := (st.map fun v => v.category).sum
/-- on: place of the next instruction, locals, stack, cells, how many cells and slots this frame has made; a call: whom, arguments, what stays on the stack; the end -/
abbrev q4_R : Type := (Nat × List (Nat × Value) × List Value × q4_M × Nat × Nat) ⊕ ((Nat × List Value × List Value) ⊕ (Option Value))
def q4_call (k y : Nat) (kd : Nat) (st : List Value) (M : q4_M) (ce sl : Nat) : Option q4_R :=
  let n := q2_na y
  let as := (st.take n).reverse
  let rest := st.drop n
  if y ≠ 0 ∧ y < q2_n ∧ q2_kd y = kd ∧ n ≤ st.length ∧ (lg_sl as).length ≤ q2_ml y ∧ q4_cat rest ≤ 8 ∧ q2_fr y + 1 ≤ q2_fr k ∧ 8 + (q2_ml y + 11) + q2_lo y ≤ q2_lo k ∧ ce + q2_mc y ≤ q2_mc k ∧ sl + q2_ms y ≤ q2_ms k then
    match kd, as with
    | 0, _ => some (.inr (.inl (y, as, rest)))
    | _, .ref b :: _ => if b < M.1 ∧ (M.2 b).1 = q2_own y + 2 ∧ q2_own y < 8 then some (.inr (.inl (y, as, rest))) else none
    | _, _ => none
  else none
def q4_step (k pc len : Nat) (lv : List (Nat × Value)) (st : List Value) (M : q4_M) (ce sl : Nat) (i : Instr) : Option q4_R :=
  let nx : List Value → Option q4_R := fun st' => some (.inl (pc + len, lv, st', M, ce, sl))
  let jp : Int → List Value → Option q4_R := fun t st' => some (.inl (t.toNat, lv, st', M, ce, sl))
  match i with
  | .aload n => match q4_get lv n with | some (.ref a) => nx (.ref a :: st) | _ => none
  | .iload n => match q4_get lv n with | some (.int x) => nx (.int x :: st) | _ => none
  | .lload n => match q4_get lv n with | some (.long x) => nx (.long x :: st) | _ => none
  | .astore n => match st with | .ref a :: r => if n < q2_ml k then some (.inl (pc + len, q4_st1 lv n (.ref a), r, M, ce, sl)) else none | _ => none
  | .istore n => match st with | .int x :: r => if n < q2_ml k then some (.inl (pc + len, q4_st1 lv n (.int x), r, M, ce, sl)) else none | _ => none
  | .lstore n => match st with | .long x :: r => if n + 1 < q2_ml k then some (.inl (pc + len, q4_st2 lv n (.long x), r, M, ce, sl)) else none | _ => none
  | .bipush v => nx (.int (Int32.ofInt v) :: st)
  | .sipush v => nx (.long (Int64.ofInt v) :: st)
  | .iadd => match st with | .int y :: .int x :: r => nx (.int (x + y) :: r) | _ => none
  | .isub => match st with | .int y :: .int x :: r => nx (.int (x - y) :: r) | _ => none
  | .imul => match st with | .int y :: .int x :: r => nx (.int (x * y) :: r) | _ => none
  | .idiv => match st with | .int y :: .int x :: r => if y = 0 then none else nx (.int (x / y) :: r) | _ => none
  | .irem => match st with | .int y :: .int x :: r => if y = 0 then none else nx (.int (x - x / y * y) :: r) | _ => none
  | .ineg => match st with | .int x :: r => nx (.int (-x) :: r) | _ => none
  | .ishl => match st with | .int y :: .int x :: r => nx (.int (x <<< (y &&& 31)) :: r) | _ => none
  | .ishr => match st with | .int y :: .int x :: r => nx (.int (x >>> (y &&& 31)) :: r) | _ => none
  | .iushr => match st with | .int y :: .int x :: r => nx (.int (x.toUInt32 >>> (y.toUInt32 &&& Int32.toUInt32 31)).toInt32 :: r) | _ => none
  | .iand => match st with | .int y :: .int x :: r => nx (.int (x &&& y) :: r) | _ => none
  | .ior => match st with | .int y :: .int x :: r => nx (.int (x ||| y) :: r) | _ => none
  | .ixor => match st with | .int y :: .int x :: r => nx (.int (x ^^^ y) :: r) | _ => none
  | .ladd => match st with | .long y :: .long x :: r => nx (.long (x + y) :: r) | _ => none
  | .lsub => match st with | .long y :: .long x :: r => nx (.long (x - y) :: r) | _ => none
  | .lmul => match st with | .long y :: .long x :: r => nx (.long (x * y) :: r) | _ => none
  | .ldiv => match st with | .long y :: .long x :: r => if y = 0 then none else nx (.long (x / y) :: r) | _ => none
  | .lrem => match st with | .long y :: .long x :: r => if y = 0 then none else nx (.long (x - x / y * y) :: r) | _ => none
  | .lneg => match st with | .long x :: r => nx (.long (-x) :: r) | _ => none
  | .i2l => match st with | .int x :: r => nx (.long x.toInt64 :: r) | _ => none
  | .l2i => match st with | .long x :: r => nx (.int x.toInt32 :: r) | _ => none
  | .lcmp => match st with | .long y :: .long x :: r => nx (.int (lg_cmp x y) :: r) | _ => none
  | .dup => match st with | v :: r => if v.category = 1 then nx (v :: v :: r) else none | _ => none
  | .dup2 => match st with | v :: w :: r => if v.category = 1 ∧ w.category = 1 then nx (v :: w :: v :: w :: r) else none | _ => none
  | .pop => match st with | v :: r => if v.category = 1 then nx r else none | _ => none
  | .pop2 => match st with | v :: r => if v.category = 2 then nx r else none | _ => none
  | .iinc n v => match q4_get lv n with | some (.int x) => if n < q2_ml k then some (.inl (pc + len, q4_st1 lv n (.int (x + Int32.ofInt v)), st, M, ce, sl)) else none | _ => none
  | .goto t => jp t st
  | .if_icmp c t => match st with | .int y :: .int x :: r => if q4_icmp c x y = true then jp t r else nx r | _ => none
  | .ifCond c t => match st with | .int x :: r => if q4_icmp c x 0 = true then jp t r else nx r | _ => none
  | .tableswitch d lo hi ts => match st with
    | .int x :: r => if x.toInt < lo ∨ hi < x.toInt then jp d r else match ts[(x.toInt - lo).toNat]? with | some t => jp t r | none => none
    | _ => none
  | .lookupswitch d ps => match st with | .int x :: r => jp (Op.lookupswitch.offset ps.toList d x.toInt) r | _ => none
  | .iaload => match st with | .int j :: .ref a :: r => if a < M.1 ∧ (M.2 a).1 = 0 ∧ ¬ j < 0 ∧ j.toNatClampNeg < (M.2 a).2.1 then nx ((M.2 a).2.2 j.toNatClampNeg :: r) else none | _ => none
  | .aaload => match st with | .int j :: .ref a :: r => if a < M.1 ∧ (M.2 a).1 = 1 ∧ ¬ j < 0 ∧ j.toNatClampNeg < (M.2 a).2.1 then nx ((M.2 a).2.2 j.toNatClampNeg :: r) else none | _ => none
  | .iastore => match st with | .int x :: .int j :: .ref a :: r => if 3 ≤ a ∧ a < M.1 ∧ (M.2 a).1 = 0 ∧ ¬ j < 0 ∧ j.toNatClampNeg < (M.2 a).2.1 then some (.inl (pc + len, lv, r, q4_put M a j.toNatClampNeg (.int x), ce, sl)) else none | _ => none
  | .arraylength => match st with | .ref a :: r => if a < M.1 ∧ (M.2 a).1 = 0 then nx (.int (M.2 a).2.1.toInt32 :: r) else none | _ => none
  | .getfield q => match st with | .ref a :: r => if a < M.1 ∧ (M.2 a).1 = q / 64 + 2 ∧ q / 64 < 8 ∧ q % 64 < q2_N (q / 64) then nx ((M.2 a).2.2 (q % 64) :: r) else none | _ => none
  | .putfield q => match st with
    | v :: .ref a :: r => if a < M.1 ∧ (M.2 a).1 = q / 64 + 2 ∧ q / 64 < 8 ∧ q % 64 < q2_N (q / 64) ∧ q4_fit (q2_ty (q / 64) (q % 64)) v = true ∧ ((q2_T (q / 64) (q % 64)).2.2.2 = false ∨ (q2_kd k = 2 ∧ q2_own k = q / 64)) then some (.inl (pc + len, lv, r, q4_put M a (q % 64) v, ce, sl)) else none
    | _ => none
  | .getstatic r => if r = 1 ∨ r = 2 then nx (.ref r :: st) else none
  | .new c => if c < 8 ∧ ce + 1 ≤ q2_mc k ∧ sl + q2_N c ≤ q2_ms k then some (.inl (pc + len, lv, .ref M.1 :: st, q4_new M (c + 2, q2_N c, fun j => defaultValue (q2_ty c j)), ce + 1, sl + q2_N c)) else none
  | .newarray _ => match st with
    | .int n :: r => if ¬ n < 0 ∧ n.toNatClampNeg ≤ 100000 ∧ ce + 1 ≤ q2_mc k ∧ sl + n.toNatClampNeg ≤ q2_ms k then some (.inl (pc + len, lv, .ref M.1 :: r, q4_new M (0, n.toNatClampNeg, fun _ => .int 0), ce + 1, sl + n.toNatClampNeg)) else none
    | _ => none
  | .multianewarray _ _ => match st with
    | .int m :: .int n :: r => if ¬ n < 0 ∧ ¬ m < 0 ∧ n.toNatClampNeg ≤ 100000 ∧ m.toNatClampNeg ≤ 100000 ∧ ce + (1 + n.toNatClampNeg) ≤ q2_mc k ∧ sl + (n.toNatClampNeg + n.toNatClampNeg * m.toNatClampNeg) ≤ q2_ms k then
        some (.inl (pc + len, lv, .ref M.1 :: r, q4_grid M n.toNatClampNeg m.toNatClampNeg, ce + 1 + n.toNatClampNeg, sl + n.toNatClampNeg + n.toNatClampNeg * m.toNatClampNeg)) else none
    | _ => none
  | .nop => match st with
    | .int n :: .int dp :: .ref b :: .int sp :: .ref a :: r =>
      if 3 ≤ a ∧ a < M.1 ∧ 3 ≤ b ∧ b < M.1 ∧ (M.2 a).1 = 0 ∧ (M.2 b).1 = 0 ∧ ¬ sp < 0 ∧ ¬ dp < 0 ∧ ¬ n < 0 ∧ sp.toNatClampNeg + n.toNatClampNeg ≤ (M.2 a).2.1 ∧ dp.toNatClampNeg + n.toNatClampNeg ≤ (M.2 b).2.1 ∧ 1 ≤ q2_fr k ∧ q4_cat r + 18 ≤ q2_lo k then
        some (.inl (pc + len, lv, r, q4_copy M a sp.toNatClampNeg b dp.toNatClampNeg n.toNatClampNeg, ce, sl)) else none
    | _ => none
  | .monitorenter => match st with | .ref _ :: r => if 1 ≤ q2_fr k ∧ q4_cat r + 12 ≤ q2_lo k then nx r else none | _ => none
  | .ireturn => match st, q2_ret k with | [.int x], some t => if q4_fit t (.int x) = true then some (.inr (.inr (some (.int x)))) else none | _, _ => none
  | .lreturn => match st, q2_ret k with | [.long x], some .long => some (.inr (.inr (some (.long x)))) | _, _ => none
  | .areturn => match st, q2_ret k with | [.ref a], some (.object _) => some (.inr (.inr (some (.ref a)))) | _, _ => none
  | .return_ => match st, q2_ret k with | [], none => some (.inr (.inr none)) | _, _ => none
  | .invokestatic y => q4_call k y 0 st M ce sl
  | .invokevirtual y => q4_call k y 1 st M ce sl
  | .invokespecial y => q4_call k y 2 st M ce sl
  | _ => none
/-- the code, within the bounds in which it is checked -/
def q4_cd (k pc : Nat) : Option (Instr × Nat) := bif Nat.blt k q2_n then bif Nat.blt pc (bif Nat.beq k 0 then 1792 else 320) then q2_cd k pc else none else none
/-- a run of at most f steps, calls among them: what it answers, the cells then -/
def q4_run : Nat → Nat → Nat → List (Nat × Value) → List Value → q4_M → Nat → Nat → Option (Option Value × q4_M)
  | 0, _, _, _, _, _, _, _ => none
  | f + 1, k, pc, lv, st, M, ce, sl =>
    match q4_cd k pc with
    | none => none
    | some (i, len) =>
      match q4_step k pc len lv st M ce sl i with
      | none => none
      | some (.inl (pc', lv', st', M', ce', sl')) => q4_run f k pc' lv' st' M' ce' sl'
      | some (.inr (.inl (y, as, rest))) =>
        match q4_run f y 0 (lv_args 0 as) [] M 0 0 with
        | none => none
        | some (v, M') => q4_run f k (pc + 3) lv (v.toList ++ rest) M' (ce + q2_mc y) (sl + q2_ms y)
      | some (.inr (.inr v)) => some (v, M)
