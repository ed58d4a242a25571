/-! A WALK WITH INTERVALS over the machine of ours -/
/-- a value: 0 an int from a to b; 1 the symbol a; 2 a long from a to b; 3 the symbol a as a long; 4 the symbol a, as a long, compared with the long b; 6 the cell a; 7 null -/
abbrev q20_V : Type := Nat × Int × Int
/-- the symbols' intervals -/
abbrev q20_E : Type := List (Int × Int)
/-- a cell: kind, length, what it held at first, what it holds by now -/
abbrev q20_C : Type := Nat × Nat × q20_V × List (Nat × q20_V)
def q20_T : Nat → Type
  | 0 => q20_C
  | n + 1 => q20_T n × q20_T n
abbrev q20_M : Type := Nat × q20_T 8
def q20_tget : (d : Nat) → q20_T d → Nat → q20_C
  | 0, t, _ => t
  | d + 1, t, k => bif Nat.blt k (2 ^ d) then q20_tget d t.1 k else q20_tget d t.2 (k - 2 ^ d)
def q20_tput : (d : Nat) → q20_T d → Nat → q20_C → q20_T d
  | 0, _, _, x => x
  | d + 1, t, k, x => bif Nat.blt k (2 ^ d) then (q20_tput d t.1 k x, t.2) else (t.1, q20_tput d t.2 (k - 2 ^ d) x)
def q20_tall (x : q20_C) : (d : Nat) → q20_T d
  | 0 => x
  | d + 1 => (q20_tall x d, q20_tall x d)
def q20_wget (d : q20_V) (j : Nat) : List (Nat × q20_V) → q20_V
  | [] => d
  | q :: r => bif Nat.beq q.1 j then q.2 else q20_wget d j r
def q20_wput (j : Nat) (v : q20_V) : List (Nat × q20_V) → List (Nat × q20_V)
  | [] => [(j, v)]
  | q :: r => bif Nat.beq q.1 j then (j, v) :: r else q :: q20_wput j v r
def q20_get (M : q20_M) (a j : Nat) : q20_V := match q20_tget 8 M.2 a with | (_, _, d, l) => q20_wget d j l
def q20_put (M : q20_M) (a j : Nat) (v : q20_V) : q20_M := match q20_tget 8 M.2 a with | (kd, n, d, l) => (M.1, q20_tput 8 M.2 a (kd, n, d, q20_wput j v l))
def q20_new (M : q20_M) (x : q20_C) : q20_M := (M.1 + 1, q20_tput 8 M.2 M.1 x)
def q20_int (v : Int) : q20_V := (0, v, v)
def q20_any : q20_V := (0, -2147483648, 2147483647)
def q20_cat (v : q20_V) : Nat := bif Nat.beq v.1 2 || Nat.beq v.1 3 then 2 else 1
def q20_sy (E : q20_E) (i : Int) : Int × Int := E.getD i.toNat (-2147483648, 2147483647)
/-- a value that is known -/
def q20_c (E : q20_E) (a : q20_V) : Option Value := match a with
  | (0, x, y) => if x = y then some (.int (Int32.ofInt x)) else none
  | (1, i, _) => if (q20_sy E i).1 = (q20_sy E i).2 then some (.int (Int32.ofInt (q20_sy E i).1)) else none
  | (2, x, y) => if x = y then some (.long (Int64.ofInt x)) else none
  | (3, i, _) => if (q20_sy E i).1 = (q20_sy E i).2 then some (.long (Int32.ofInt (q20_sy E i).1).toInt64) else none
  | (6, x, _) => some (.ref x.toNat)
  | _ => none
def q20_a (v : Value) : Option q20_V := match v with
  | .int z => some (q20_int z.toInt)
  | .long z => some (2, z.toInt, z.toInt)
  | .ref a => some (6, a, 0)
  | .null => some (7, 0, 0)
  | _ => none
def q20_isv (v : Value) : Bool := match q20_a v with
  | some _ => true
  | none => false
def q20_dv (v : Value) : q20_V := match q20_a v with
  | some a => a
  | none => (8, 0, 0)
/-- between what numbers an int lies -/
def q20_iv (E : q20_E) (a : q20_V) : Option (Int × Int) := match a with
  | (0, x, y) => some (x, y)
  | (1, i, _) => some (q20_sy E i)
  | _ => none
def q20_consts (E : q20_E) : List q20_V → Option (List Value)
  | [] => some []
  | a :: r => match q20_c E a with
    | some v => match q20_consts E r with | some vs => some (v :: vs) | none => none
    | none => none
def q20_absl : List Value → Option (List q20_V)
  | [] => some []
  | v :: r => match q20_a v with
    | some a => match q20_absl r with | some as => some (a :: as) | none => none
    | none => none
/-- where x c b holds, of an x from lo to hi -/
def q20_ref (c : ClassFile.Cond) (lo hi b : Int) : List (Int × Int) :=
  (match c with
  | .lt => [(lo, min hi (b - 1))]
  | .le => [(lo, min hi b)]
  | .gt => [(max lo (b + 1), hi)]
  | .ge => [(max lo b, hi)]
  | .eq => [(max lo b, min hi b)]
  | .ne => [(lo, min hi (b - 1)), (max lo (b + 1), hi)]).filter (fun q => decide (q.1 ≤ q.2))
def q20_neg (c : ClassFile.Cond) : ClassFile.Cond := match c with | .lt => .ge | .ge => .lt | .gt => .le | .le => .gt | .eq => .ne | .ne => .eq
def q20_flip (c : ClassFile.Cond) : ClassFile.Cond := match c with | .lt => .gt | .ge => .le | .gt => .lt | .le => .ge | .eq => .eq | .ne => .ne
/-- what a comparison can say: the symbols' intervals, whether it holds -/
def q20_br (E : q20_E) (c : ClassFile.Cond) (x y : q20_V) : List (q20_E × Bool) :=
  let on : Int → ClassFile.Cond → Int → List (q20_E × Bool) := fun i c b =>
    (q20_ref c (q20_sy E i).1 (q20_sy E i).2 b).map (fun q => (E.set i.toNat q, true)) ++ (q20_ref (q20_neg c) (q20_sy E i).1 (q20_sy E i).2 b).map (fun q => (E.set i.toNat q, false))
  match x.1, q20_c E x, y.1, q20_c E y with
  | 4, _, _, some (.int b) => bif decide (b = 0) && decide (x.2.1.toNat < E.length) && decide ((Int64.ofInt x.2.2).toInt = x.2.2) then on x.2.1 c x.2.2 else [(E, true), (E, false)]
  | 1, _, _, some (.int b) => bif decide (x.2.1.toNat < E.length) then on x.2.1 c b.toInt else [(E, true), (E, false)]
  | _, some (.int b), 1, _ => bif decide (y.2.1.toNat < E.length) then on y.2.1 (q20_flip c) b.toInt else [(E, true), (E, false)]
  | _, _, _, _ => [(E, true), (E, false)]
def q20_join (E : q20_E) (a b : q20_V) : Option q20_V := if a = b then some a else match q20_iv E a, q20_iv E b with
  | some (x, y), some (z, w) => some (0, min x z, max y w)
  | _, _ => none
/-- what stands at one of the places lo, lo + 1, .. (n of them, and lo) -/
def q20_some (E : q20_E) (M : q20_M) (a lo : Nat) : Nat → Option q20_V
  | 0 => some (q20_get M a lo)
  | n + 1 => match q20_some E M a lo n with | some v => q20_join E v (q20_get M a (lo + (n + 1))) | none => none
/-- v laid at one of these places -/
def q20_lay (E : q20_E) (M : q20_M) (a lo : Nat) (v : q20_V) : Nat → Option q20_M
  | 0 => match q20_join E (q20_get M a lo) v with | some w => some (q20_put M a lo w) | none => none
  | n + 1 => match q20_lay E M a lo v n with
    | some M1 => match q20_join E (q20_get M1 a (lo + (n + 1))) v with | some w => some (q20_put M1 a (lo + (n + 1)) w) | none => none
    | none => none
def q20_rows (a m : Nat) (t : q20_T 8) : Nat → q20_T 8
  | 0 => t
  | n + 1 => q20_tput 8 (q20_rows a m t n) (a + n) (0, m, q20_int 0, [])
def q20_cp (M : q20_M) (a sp b dp : Nat) : Nat → q20_M
  | 0 => M
  | n + 1 => q20_put (q20_cp M a sp b dp n) b (dp + n) (q20_get M a (sp + n))
abbrev q20_F : Type := Nat × List (Nat × q20_V) × List q20_V × q20_M × Nat × Nat
abbrev q20_B : Type := q20_E × (q20_F ⊕ ((Nat × List q20_V × List q20_V) ⊕ (Option q20_V)))
/-- how many values an instruction takes that asks nothing but them -/
def q20_ar (i : Instr) : Nat := match i with
  | .iadd => 2 | .isub => 2 | .imul => 2 | .idiv => 2 | .irem => 2 | .ishl => 2 | .ishr => 2 | .iushr => 2 | .iand => 2 | .ior => 2 | .ixor => 2
  | .ladd => 2 | .lsub => 2 | .lmul => 2 | .ldiv => 2 | .lrem => 2 | .lcmp => 2 | .if_icmp _ _ => 2
  | .ineg => 1 | .lneg => 1 | .i2l => 1 | .l2i => 1 | .ifCond _ _ => 1 | .tableswitch _ _ _ _ => 1 | .lookupswitch _ _ => 1
  | _ => 0
def q20_fit (t : FieldType) (E : q20_E) (v : q20_V) : Bool := match t with
  | .int => match q20_iv E v with | some _ => true | none => Nat.beq v.1 4
  | .boolean => match q20_iv E v with | some (x, y) => decide (0 ≤ x) && decide (y ≤ 1) | none => false
  | .long => Nat.beq v.1 2 || Nat.beq v.1 3
  | .array _ => Nat.beq v.1 6
  | .object _ => Nat.beq v.1 6
  | _ => false
def q20_ib (t : FieldType) : Bool := match t with
  | .int => true
  | .boolean => true
  | _ => false
def q20_look (lv : List (Nat × q20_V)) (i : Nat) : Option q20_V := match lv with
  | [] => none
  | q :: r => bif Nat.beq q.1 i then some q.2 else q20_look r i
def q20_st1 (lv : List (Nat × q20_V)) (i : Nat) (v : q20_V) : List (Nat × q20_V) := (i, v) :: lv.filter (fun q => !(Nat.beq q.1 i) && !(Nat.beq (q.1 + 1) i && Nat.beq (q20_cat q.2) 2))
def q20_st2 (lv : List (Nat × q20_V)) (i : Nat) (v : q20_V) : List (Nat × q20_V) := (i, v) :: lv.filter (fun q => !(Nat.beq q.1 i) && (!(Nat.beq q.1 (i + 1)) && !(Nat.beq (q.1 + 1) i && Nat.beq (q20_cat q.2) 2)))
def q20_args : Nat → List q20_V → List (Nat × q20_V)
  | _, [] => []
  | i, v :: vs => (i, v) :: q20_args (i + q20_cat v) vs
def q20_cats : List q20_V → Nat
  | [] => 0
  | v :: r => q20_cat v + q20_cats r
def q20_call (k y kd : Nat) (st : List q20_V) (M : q20_M) (E : q20_E) (ce sl : Nat) : Option (List q20_B) :=
  let n := q2_na y
  let as := (st.take n).reverse
  let rest := st.drop n
  bif decide (y ≠ 0) && Nat.blt y q2_n && Nat.beq (q2_kd y) kd && Nat.ble n st.length && Nat.ble (q20_cats as) (q2_ml y) && Nat.ble (q20_cats rest) 8 && Nat.ble (q2_fr y + 1) (q2_fr k) && Nat.ble (8 + (q2_ml y + 11) + q2_lo y) (q2_lo k) && Nat.ble (ce + q2_mc y) (q2_mc k) && Nat.ble (sl + q2_ms y) (q2_ms k) then
    bif Nat.beq kd 0 then some [(E, .inr (.inl (y, as, rest)))]
    else match as with
      | (6, b, _) :: _ => bif Nat.blt b.toNat M.1 && Nat.beq (q20_tget 8 M.2 b.toNat).1 (q2_own y + 2) && Nat.blt (q2_own y) 8 then some [(E, .inr (.inl (y, as, rest)))] else none
      | _ => none
  else none
/-- the places from x on, n of them, each of a symbol's own -/
def q20_tab (E : q20_E) (v : q20_V) (x : Int) : Nat → List (Int × q20_E)
  | 0 => []
  | n + 1 => (x, bif Nat.beq v.1 1 then E.set v.2.1.toNat (x, x) else E) :: q20_tab E v (x + 1) n
def q20_all {α β : Type} (f : α → Option (List β)) : List α → Option (List β)
  | [] => some []
  | a :: r => match f a with
    | some b => match q20_all f r with | some c => some (b ++ c) | none => none
    | none => none
def q20_isi (E : q20_E) (v : q20_V) : Bool := match q20_iv E v with
  | some _ => true
  | none => Nat.beq v.1 4
/-- an instruction on values that are not all known -/
def q20_open (pc len : Nat) (lv : List (Nat × q20_V)) (st : List q20_V) (M : q20_M) (ce sl : Nat) (E : q20_E) (i : Instr) : Option (List q20_B) :=
  let go : Nat → List q20_V → q20_E → q20_B := fun q st' E' => (E', .inl (q, lv, st', M, ce, sl))
  match i, st with
  | .iadd, y :: x :: r => match q20_iv E x, q20_iv E y with
    | some a, some b => some [go (pc + len) ((bif decide (-2147483648 ≤ a.1 + b.1) && decide (a.2 + b.2 ≤ 2147483647) then (0, a.1 + b.1, a.2 + b.2) else q20_any) :: r) E]
    | _, _ => none
  | .isub, y :: x :: r => match q20_iv E x, q20_iv E y with
    | some a, some b => some [go (pc + len) ((bif decide (-2147483648 ≤ a.1 - b.2) && decide (a.2 - b.1 ≤ 2147483647) then (0, a.1 - b.2, a.2 - b.1) else q20_any) :: r) E]
    | _, _ => none
  | .imul, y :: x :: r => match q20_iv E x, q20_iv E y with | some _, some _ => some [go (pc + len) (q20_any :: r) E] | _, _ => none
  | .idiv, y :: x :: r => match q20_iv E x, q20_c E y with | some _, some (.int z) => bif decide (z = 0) then none else some [go (pc + len) (q20_any :: r) E] | _, _ => none
  | .irem, y :: x :: r => match q20_iv E x, q20_c E y with | some _, some (.int z) => bif decide (z = 0) then none else some [go (pc + len) (q20_any :: r) E] | _, _ => none
  | .iand, y :: x :: r => match x, q20_c E y with
    | (1, 0, _), some (.int z) => bif decide (z = 63) then some [go (pc + len) ((1, 5, 0) :: r) E] else some [go (pc + len) (q20_any :: r) E]
    | _, _ => match q20_iv E x, q20_iv E y with | some _, some _ => some [go (pc + len) (q20_any :: r) E] | _, _ => none
  | .i2l, x :: r => match x with
    | (1, s, _) => some [go (pc + len) ((3, s, 0) :: r) E]
    | (0, a, b) => some [go (pc + len) ((2, a, b) :: r) E]
    | _ => none
  | .lcmp, y :: x :: r => match x, q20_c E y with
    | (3, s, _), some (.long z) => some [go (pc + len) ((4, s, z.toInt) :: r) E]
    | _, _ => none
  | .if_icmp c t, y :: x :: r => bif q20_isi E x && q20_isi E y then some ((q20_br E c x y).map (fun q => go (bif q.2 then t.toNat else pc + len) r q.1)) else none
  | .ifCond c t, x :: r => bif q20_isi E x then some ((q20_br E c x (q20_int 0)).map (fun q => go (bif q.2 then t.toNat else pc + len) r q.1)) else none
  | .tableswitch d lo hi ts, x :: r => match q20_iv E x with
    | some (a, b) =>
      bif Nat.beq x.1 1 && !(decide (x.2.1.toNat < E.length)) then none else
      match q20_all (fun q => match ts[(q.1 - lo).toNat]? with | some t => some [go t.toNat r q.2] | none => none) (q20_tab E x (max lo a) ((min hi b) - (max lo a) + 1).toNat) with
      | some bs => some (bs ++ (bif decide (a < lo) then [go d.toNat r (bif Nat.beq x.1 1 then E.set x.2.1.toNat (a, min b (lo - 1)) else E)] else []) ++ (bif decide (hi < b) then [go d.toNat r (bif Nat.beq x.1 1 then E.set x.2.1.toNat (max a (hi + 1), b) else E)] else []))
      | none => none
    | none => none
  | _, _ => none
def q20_step (k pc len : Nat) (lv : List (Nat × q20_V)) (st : List q20_V) (M : q20_M) (ce sl : Nat) (E : q20_E) (i : Instr) : Option (List q20_B) :=
  let nx : List q20_V → Option (List q20_B) := fun st' => some [(E, .inl (pc + len, lv, st', M, ce, sl))]
  match i with
  | .aload n => match q20_look lv n with | some v => bif Nat.beq v.1 6 then nx (v :: st) else none | none => none
  | .iload n => match q20_look lv n with | some v => bif q20_isi E v then nx (v :: st) else none | none => none
  | .lload n => match q20_look lv n with | some v => bif q20_fit .long E v then nx (v :: st) else none | none => none
  | .astore n => match st with | v :: r => bif Nat.beq v.1 6 && Nat.blt n (q2_ml k) then some [(E, .inl (pc + len, q20_st1 lv n v, r, M, ce, sl))] else none | _ => none
  | .istore n => match st with | v :: r => bif q20_fit .int E v && Nat.blt n (q2_ml k) then some [(E, .inl (pc + len, q20_st1 lv n v, r, M, ce, sl))] else none | _ => none
  | .lstore n => match st with | v :: r => bif q20_fit .long E v && Nat.blt (n + 1) (q2_ml k) then some [(E, .inl (pc + len, q20_st2 lv n v, r, M, ce, sl))] else none | _ => none
  | .bipush v => nx (q20_int (Int32.ofInt v).toInt :: st)
  | .sipush v => nx ((2, (Int64.ofInt v).toInt, (Int64.ofInt v).toInt) :: st)
  | .dup => match st with | v :: r => bif Nat.beq (q20_cat v) 1 then nx (v :: v :: r) else none | _ => none
  | .dup2 => match st with | v :: w :: r => bif Nat.beq (q20_cat v) 1 && Nat.beq (q20_cat w) 1 then nx (v :: w :: v :: w :: r) else none | _ => none
  | .pop => match st with | v :: r => bif Nat.beq (q20_cat v) 1 then nx r else none | _ => none
  | .pop2 => match st with | v :: r => bif Nat.beq (q20_cat v) 2 then nx r else none | _ => none
  | .iinc n v => match q20_look lv n with
    | some x => bif Nat.blt n (q2_ml k) then match q20_c E x with
      | some (.int z) => some [(E, .inl (pc + len, q20_st1 lv n (q20_int (z + Int32.ofInt v).toInt), st, M, ce, sl))]
      | _ => none
      else none
    | none => none
  | .goto t => some [(E, .inl (t.toNat, lv, st, M, ce, sl))]
  | .iaload => match st with
    | j :: (6, a, _) :: r => match q20_iv E j with
      | some (lo, hi) => bif Nat.blt a.toNat M.1 && Nat.beq (q20_tget 8 M.2 a.toNat).1 0 && decide (0 ≤ lo) && decide (hi < (q20_tget 8 M.2 a.toNat).2.1) && decide (hi - lo < 64) && decide (lo ≤ hi) then
          match q20_some E M a.toNat lo.toNat (hi - lo).toNat with | some v => nx (v :: r) | none => none else none
      | none => none
    | _ => none
  | .aaload => match st with
    | j :: (6, a, _) :: r => match q20_c E j with
      | some (.int z) => bif Nat.blt a.toNat M.1 && Nat.beq (q20_tget 8 M.2 a.toNat).1 1 && decide (0 ≤ z.toInt) && decide (z.toInt < (q20_tget 8 M.2 a.toNat).2.1) then nx (q20_get M a.toNat z.toInt.toNat :: r) else none
      | _ => none
    | _ => none
  | .iastore => match st with
    | v :: j :: (6, a, _) :: r => match q20_iv E j with
      | some (lo, hi) => bif q20_fit .int E v && Nat.ble 3 a.toNat && Nat.blt a.toNat M.1 && Nat.beq (q20_tget 8 M.2 a.toNat).1 0 && decide (0 ≤ lo) && decide (hi < (q20_tget 8 M.2 a.toNat).2.1) && decide (hi - lo < 64) && decide (lo ≤ hi) then
          bif decide (lo = hi) then some [(E, .inl (pc + len, lv, r, q20_put M a.toNat lo.toNat v, ce, sl))]
          else match q20_lay E M a.toNat lo.toNat v (hi - lo).toNat with | some M1 => some [(E, .inl (pc + len, lv, r, M1, ce, sl))] | none => none
        else none
      | none => none
    | _ => none
  | .arraylength => match st with
    | (6, a, _) :: r => bif Nat.blt a.toNat M.1 && Nat.beq (q20_tget 8 M.2 a.toNat).1 0 then nx (q20_int (q20_tget 8 M.2 a.toNat).2.1.toInt32.toInt :: r) else none
    | _ => none
  | .getfield q => match st with
    | (6, a, _) :: r => bif Nat.blt a.toNat M.1 && Nat.beq (q20_tget 8 M.2 a.toNat).1 (q / 64 + 2) && Nat.blt (q / 64) 8 && Nat.blt (q % 64) (q2_N (q / 64)) && Nat.blt (q % 64) (q20_tget 8 M.2 a.toNat).2.1 then nx (q20_get M a.toNat (q % 64) :: r) else none
    | _ => none
  | .putfield q => match st with
    | v :: (6, a, _) :: r => bif Nat.blt a.toNat M.1 && Nat.beq (q20_tget 8 M.2 a.toNat).1 (q / 64 + 2) && Nat.blt (q / 64) 8 && Nat.blt (q % 64) (q2_N (q / 64)) && q20_fit (q2_ty (q / 64) (q % 64)) E v && (!(q2_T (q / 64) (q % 64)).2.2.2 || (Nat.beq (q2_kd k) 2 && Nat.beq (q2_own k) (q / 64))) then some [(E, .inl (pc + len, lv, r, q20_put M a.toNat (q % 64) v, ce, sl))] else none
    | _ => none
  | .getstatic n => bif Nat.beq n 1 || Nat.beq n 2 then nx ((6, n, 0) :: st) else none
  | .new c => bif (List.range (q2_N c)).all (fun j => q20_isv (defaultValue (q2_ty c j))) && Nat.blt c 8 && Nat.blt M.1 256 && Nat.ble (ce + 1) (q2_mc k) && Nat.ble (sl + q2_N c) (q2_ms k) then
      some [(E, .inl (pc + len, lv, (6, M.1, 0) :: st, q20_new M (c + 2, q2_N c, (7, 0, 0), (List.range (q2_N c)).map (fun j => (j, q20_dv (defaultValue (q2_ty c j))))), ce + 1, sl + q2_N c))] else none
  | .newarray _ => match st with
    | n :: r => match q20_c E n with
      | some (.int z) => bif decide (0 ≤ z.toInt) && decide (z.toInt ≤ 100000) && Nat.blt M.1 256 && Nat.ble (ce + 1) (q2_mc k) && Nat.ble (sl + z.toInt.toNat) (q2_ms k) then
          some [(E, .inl (pc + len, lv, (6, M.1, 0) :: r, q20_new M (0, z.toInt.toNat, q20_int 0, []), ce + 1, sl + z.toInt.toNat))] else none
      | _ => none
    | _ => none
  | .multianewarray _ _ => match st with
    | m :: n :: r => match q20_c E m, q20_c E n with
      | some (.int y), some (.int x) => bif decide (0 ≤ x.toInt) && decide (0 ≤ y.toInt) && decide (x.toInt ≤ 100000) && decide (y.toInt ≤ 100000) && Nat.ble (M.1 + 1 + x.toInt.toNat) 256 && Nat.ble (ce + (1 + x.toInt.toNat)) (q2_mc k) && Nat.ble (sl + (x.toInt.toNat + x.toInt.toNat * y.toInt.toNat)) (q2_ms k) then
          some [(E, .inl (pc + len, lv, (6, M.1, 0) :: r, (M.1 + 1 + x.toInt.toNat, q20_rows (M.1 + 1) y.toInt.toNat (q20_tput 8 M.2 M.1 (1, x.toInt.toNat, (7, 0, 0), (List.range x.toInt.toNat).map (fun j => (j, ((6, ((M.1 + 1 + j : Nat) : Int), 0) : q20_V))))) x.toInt.toNat), ce + 1 + x.toInt.toNat, sl + x.toInt.toNat + x.toInt.toNat * y.toInt.toNat))] else none
      | _, _ => none
    | _ => none
  | .nop => match st with
    | n :: dp :: (6, b, _) :: sp :: (6, a, _) :: r => match q20_c E n, q20_c E dp, q20_c E sp with
      | some (.int z), some (.int y), some (.int x) => bif Nat.ble 3 a.toNat && Nat.blt a.toNat M.1 && Nat.ble 3 b.toNat && Nat.blt b.toNat M.1 && !(Nat.beq a.toNat b.toNat) && Nat.beq (q20_tget 8 M.2 a.toNat).1 0 && Nat.beq (q20_tget 8 M.2 b.toNat).1 0 && decide (0 ≤ z.toInt) && decide (0 ≤ y.toInt) && decide (0 ≤ x.toInt)
          && Nat.ble (x.toInt.toNat + z.toInt.toNat) (q20_tget 8 M.2 a.toNat).2.1 && Nat.ble (y.toInt.toNat + z.toInt.toNat) (q20_tget 8 M.2 b.toNat).2.1 && Nat.ble 1 (q2_fr k) && Nat.ble (q20_cats r + 18) (q2_lo k) then
          some [(E, .inl (pc + len, lv, r, q20_cp M a.toNat x.toInt.toNat b.toNat y.toInt.toNat z.toInt.toNat, ce, sl))] else none
      | _, _, _ => none
    | _ => none
  | .monitorenter => match st with | (6, _, _) :: r => bif Nat.ble 1 (q2_fr k) && Nat.ble (q20_cats r + 12) (q2_lo k) then nx r else none | _ => none
  | .ireturn => match st, q2_ret k with | [v], some t => bif q20_fit t E v && q20_ib t then some [(E, .inr (.inr (some v)))] else none | _, _ => none
  | .lreturn => match st, q2_ret k with | [v], some .long => bif q20_fit .long E v then some [(E, .inr (.inr (some v)))] else none | _, _ => none
  | .areturn => match st, q2_ret k with | [v], some (.object _) => bif Nat.beq v.1 6 then some [(E, .inr (.inr (some v)))] else none | _, _ => none
  | .return_ => match st, q2_ret k with | [], none => some [(E, .inr (.inr none))] | _, _ => none
  | .invokestatic y => q20_call k y 0 st M E ce sl
  | .invokevirtual y => q20_call k y 1 st M E ce sl
  | .invokespecial y => q20_call k y 2 st M E ce sl
  | _ => none
/-- an instruction, known values first -/
def q20_go (k pc len : Nat) (lv : List (Nat × q20_V)) (st : List q20_V) (M : q20_M) (ce sl : Nat) (E : q20_E) (i : Instr) : Option (List q20_B) :=
  bif Nat.beq (q20_ar i) 0 then q20_step k pc len lv st M ce sl E i
  else bif Nat.blt st.length (q20_ar i) then none
  else match q20_consts E (st.take (q20_ar i)) with
    | some vs => match q4_step k pc len [] vs (0, fun _ => (0, 0, fun _ => .null)) 0 0 i with
      | some (.inl (pc', _, st', _, _, _)) => match q20_absl st' with
        | some as => some [(E, .inl (pc', lv, as ++ st.drop (q20_ar i), M, ce, sl))]
        | none => none
      | _ => none
    | none => q20_open pc len lv st M ce sl E i
def q20_each {α β : Type} (f : α → Option (List β)) (l : List α) : Option (List β) := match l with
  | [a] => f a
  | l => q20_all f l
/-- all ends of a run -/
noncomputable def q20_run (f : Nat) : Nat → Nat → List (Nat × q20_V) → List q20_V → q20_M → Nat → Nat → q20_E → Option (List (q20_E × q20_M × Option q20_V)) :=
  Nat.rec (motive := fun _ => Nat → Nat → List (Nat × q20_V) → List q20_V → q20_M → Nat → Nat → q20_E → Option (List (q20_E × q20_M × Option q20_V))) (fun _ _ _ _ _ _ _ _ => none)
    (fun _ ih k pc lv st M ce sl E => match q4_cd k pc with
      | none => none
      | some (i, len) => match q20_go k pc len lv st M ce sl E i with
        | none => none
        | some bs => q20_each (fun b => match b with
          | (E', .inl (pc', lv', st', M', ce', sl')) => ih k pc' lv' st' M' ce' sl' E'
          | (E', .inr (.inl (y, as, rest))) => match ih y 0 (q20_args 0 as) [] M 0 0 E' with
            | none => none
            | some outs => q20_each (fun o => match o with | (E2, M2, v) => ih k (pc + 3) lv (v.toList ++ rest) M2 (ce + q2_mc y) (sl + q2_ms y) E2) outs
          | (E', .inr (.inr v)) => some [(E', M, v)]) bs) f
/-! the law at one call on a new object -/
def q30_M (L : Nat) : q20_M := (3, q20_tput 8 (q20_tput 8 (q20_tput 8 (q20_tall (0, 0, q20_int 0, []) 8) 0 (0, L, q20_int 0, (List.range L).map (fun j => (j, ((1, (j : Int), 0) : q20_V))))) 1 (0, 8, q20_int 0, [(0, q20_int 1), (1, q20_int 3), (2, q20_int 9), (3, q20_int 27), (4, q20_int 81), (5, q20_int 243), (6, q20_int 729), (7, q20_int 2187)])) 2 (0, 8, q20_int 0, [(0, q20_int 1), (1, q20_int 1), (2, q20_int 2), (3, q20_int 6), (4, q20_int 24), (5, q20_int 120), (6, q20_int 720), (7, q20_int 5040)]))
/-- the second int of the script from a to b, the first one's last six bits from lo to hi -/
def q30_E (a b lo hi : Int) : q20_E := [(-2147483648, 2147483647), (a, b), (-2147483648, 2147483647), (-2147483648, 2147483647), (-2147483648, 2147483647), (lo, hi)]
def q30_one (o : q20_E × q20_M × Option q20_V) : Bool := match o with
  | (_, _, some (0, a, b)) => decide (a = 1) && decide (b = 1)
  | _ => false
noncomputable def q30_ok (L : Nat) (a b lo hi : Int) : Bool := match q20_run 20000 0 0 [(0, (6, 0, 0))] [] (q30_M L) 0 0 (q30_E a b lo hi) with
  | none => false
  | some outs => outs.all q30_one
