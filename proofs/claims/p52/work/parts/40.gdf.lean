/-! THE GENERAL WALK: from patterns, with contracts and cuts -/
abbrev q50_V : Type := Nat × Int × Int
def q50_T : Nat → Type
  | 0 => Int × Int
  | n + 1 => q50_T n × q50_T n
def q50_tg : (d : Nat) → q50_T d → Nat → Int × Int
  | 0, t, _ => t
  | d + 1, t, k => bif Nat.blt k (2 ^ d) then q50_tg d t.1 k else q50_tg d t.2 (k - 2 ^ d)
def q50_tp : (d : Nat) → q50_T d → Nat → Int × Int → q50_T d
  | 0, _, _, x => x
  | d + 1, t, k, x => bif Nat.blt k (2 ^ d) then (q50_tp d t.1 k x, t.2) else (t.1, q50_tp d t.2 (k - 2 ^ d) x)
def q50_ta (x : Int × Int) : (d : Nat) → q50_T d
  | 0 => x
  | d + 1 => (q50_ta x d, q50_ta x d)
/-- how many symbols there are, their intervals, facts (i, j, c): symbol i + c ≤ symbol j; what is remembered: cell, place (-1: the length), value -/
abbrev q50_S : Type := Nat × q50_T 12 × List (Nat × Nat × Int) × List (Nat × q50_V × q50_V)
def q50_any : q50_V := (0, -2147483648, 2147483647)
def q50_lany : q50_V := (2, -9223372036854775808, 9223372036854775807)
def q50_k (z : Int) : q50_V := (0, z, z)
def q50_veq (v w : q50_V) : Bool := Nat.beq v.1 w.1 && decide (v.2.1 = w.2.1) && decide (v.2.2 = w.2.2)
def q50_cat (v : q50_V) : Nat := bif Nat.beq v.1 2 || Nat.beq v.1 3 then 2 else 1
def q50_sf (S : q50_S) (i : Nat) : List (Nat × Nat × Int) → Int × Int → Int × Int
  | [], q => q
  | f :: r, q => q50_sf S i r (bif Nat.beq f.1 i then (q.1, min q.2 ((q50_tg 12 S.2.1 f.2.1).2 - f.2.2)) else bif Nat.beq f.2.1 i then (max q.1 ((q50_tg 12 S.2.1 f.1).1 + f.2.2), q.2) else q)
def q50_sy (S : q50_S) (i : Nat) : Int × Int := q50_sf S i S.2.2.1 (q50_tg 12 S.2.1 i)
def q50_iv (S : q50_S) (v : q50_V) : Option (Int × Int) := match v with
  | (0, a, b) => some (a, b)
  | (1, i, c) => let q := q50_sy S i.toNat; some (q.1 + c, q.2 + c)
  | (2, a, b) => some (a, b)
  | (3, i, c) => let q := q50_sy S i.toNat; some (q.1 + c, q.2 + c)
  | _ => none
def q50_isi (v : q50_V) : Bool := Nat.beq v.1 0 || Nat.beq v.1 1
def q50_isl (v : q50_V) : Bool := Nat.beq v.1 2 || Nat.beq v.1 3
def q50_cst (S : q50_S) (v : q50_V) : Option Int := match q50_iv S v with
  | some (a, b) => bif decide (a = b) then some a else none
  | none => none
/-- a value that is known -/
def q50_c (S : q50_S) (v : q50_V) : Option Value := match q50_cst S v with
  | some z => bif q50_isi v then some (.int (Int32.ofInt z)) else some (.long (Int64.ofInt z))
  | none => none
def q50_cs (S : q50_S) : List q50_V → Option (List Value)
  | [] => some []
  | a :: r => match q50_c S a with
    | some v => match q50_cs S r with | some vs => some (v :: vs) | none => none
    | none => none
def q50_a (v : Value) : Option q50_V := match v with
  | .int z => some (0, z.toInt, z.toInt)
  | .long z => some (2, z.toInt, z.toInt)
  | _ => none
def q50_as : List Value → Option (List q50_V)
  | [] => some []
  | v :: r => match q50_a v with
    | some a => match q50_as r with | some as => some (a :: as) | none => none
    | none => none
/-- an interval made a symbol -/
def q50_fr (S : q50_S) (v : q50_V) : q50_S × q50_V := match v with
  | (0, a, b) => bif decide (a < b) && Nat.blt S.1 4096 then ((S.1 + 1, q50_tp 12 S.2.1 S.1 (a, b), S.2.2), (1, (S.1 : Int), 0)) else (S, v)
  | (2, a, b) => bif decide (a < b) && Nat.blt S.1 4096 then ((S.1 + 1, q50_tp 12 S.2.1 S.1 (a, b), S.2.2), (3, (S.1 : Int), 0)) else (S, v)
  | _ => (S, v)
def q50_frs (S : q50_S) : List q50_V → q50_S × List q50_V
  | [] => (S, [])
  | v :: r => match q50_fr S v with
    | (S1, w) => match q50_frs S1 r with
      | (S2, ws) => (S2, w :: ws)
def q50_rg (lo hi : Int) : q50_V := bif decide (-2147483648 ≤ lo) && decide (hi ≤ 2147483647) then (0, lo, hi) else q50_any
def q50_lg (lo hi : Int) : q50_V := bif decide (-9223372036854775808 ≤ lo) && decide (hi ≤ 9223372036854775807) then (2, lo, hi) else q50_lany
def q50_p2 (h : Int) : Int := bif decide (h ≤ 0) then 0 else ((2 ^ (Nat.log2 h.toNat + 1) - 1 : Nat) : Int)
def q50_add (S : q50_S) (x y : q50_V) (a b : Int × Int) : q50_V :=
  bif decide (-2147483648 ≤ a.1 + b.1) && decide (a.2 + b.2 ≤ 2147483647) then
    (bif Nat.beq x.1 1 && decide (b.1 = b.2) then (1, x.2.1, x.2.2 + b.1) else bif Nat.beq y.1 1 && decide (a.1 = a.2) then (1, y.2.1, y.2.2 + a.1) else (0, a.1 + b.1, a.2 + b.2))
  else q50_any
def q50_sub (S : q50_S) (x y : q50_V) (a b : Int × Int) : q50_V :=
  bif decide (-2147483648 ≤ a.1 - b.2) && decide (a.2 - b.1 ≤ 2147483647) then
    (bif Nat.beq x.1 1 && decide (b.1 = b.2) then (1, x.2.1, x.2.2 - b.1) else (0, a.1 - b.2, a.2 - b.1))
  else q50_any
/-- an int out of two -/
def q50_o2 (S : q50_S) (i : Instr) (x y : q50_V) (a b : Int × Int) : Option q50_V := match i with
  | .iadd => some (q50_add S x y a b)
  | .isub => some (q50_sub S x y a b)
  | .imul => some (bif decide (0 ≤ a.1) && decide (0 ≤ b.1) then q50_rg (a.1 * b.1) (a.2 * b.2) else q50_any)
  | .idiv => bif decide (0 < b.1) then some (bif decide (0 ≤ a.1) then (0, 0, bif decide (b.1 = b.2) then a.2 / b.1 else a.2) else (0, min a.1 0, max a.2 0)) else bif decide (b.2 < 0) then some q50_any else none
  | .irem => bif decide (0 < b.1) then some (bif decide (0 ≤ a.1) then (0, 0, min (b.2 - 1) a.2) else (0, 1 - b.2, b.2 - 1)) else bif decide (b.2 < 0) then some q50_any else none
  | .iand => some (bif decide (0 ≤ a.1) then (0, 0, bif decide (0 ≤ b.1) then min a.2 b.2 else a.2) else bif decide (0 ≤ b.1) then (0, 0, b.2) else q50_any)
  | .ior => some (bif decide (0 ≤ a.1) && decide (0 ≤ b.1) then q50_rg 0 (q50_p2 (max a.2 b.2)) else q50_any)
  | .ixor => some (bif decide (0 ≤ a.1) && decide (0 ≤ b.1) then q50_rg 0 (q50_p2 (max a.2 b.2)) else q50_any)
  | .ishl => some (bif decide (a.1 = 1) && decide (a.2 = 1) && decide (0 ≤ b.1) && decide (b.2 ≤ 30) then (0, ((2 ^ b.1.toNat : Nat) : Int), ((2 ^ b.2.toNat : Nat) : Int)) else q50_any)
  | .ishr => some (0, min a.1 0, max a.2 0)
  | .iushr => some (bif decide (b.1 = b.2) && decide (0 < b.1) && decide (b.1 < 32) then (0, 0, bif decide (0 ≤ a.1) then a.2 / ((2 ^ b.1.toNat : Nat) : Int) else 4294967295 / ((2 ^ b.1.toNat : Nat) : Int)) else q50_any)
  | _ => none
/-- a long out of two -/
def q50_l2 (i : Instr) (a b : Int × Int) : Option q50_V := match i with
  | .ladd => some (q50_lg (a.1 + b.1) (a.2 + b.2))
  | .lsub => some (q50_lg (a.1 - b.2) (a.2 - b.1))
  | .lmul => some (bif decide (0 ≤ a.1) && decide (0 ≤ b.1) then q50_lg (a.1 * b.1) (a.2 * b.2) else q50_lany)
  | .ldiv => bif decide (0 < b.1) || decide (b.2 < 0) then some q50_lany else none
  | .lrem => bif decide (0 < b.1) || decide (b.2 < 0) then some q50_lany else none
  | _ => none
def q50_o1 (S : q50_S) (i : Instr) (x : q50_V) (a : Int × Int) : Option q50_V := match i with
  | .ineg => bif q50_isi x then some (q50_rg (-a.2) (-a.1)) else none
  | .lneg => bif q50_isl x then some (q50_lg (-a.2) (-a.1)) else none
  | .i2l => match x with
    | (0, p, q) => some (2, p, q)
    | (1, p, q) => some (3, p, q)
    | _ => none
  | .l2i => bif q50_isl x then some (bif decide (-2147483648 ≤ a.1) && decide (a.2 ≤ 2147483647) then (x.1 - 2, x.2) else q50_any) else none
  | _ => none
def q50_lo (S : q50_S) (v : q50_V) (x : Int) : q50_S := bif (Nat.beq v.1 1 || Nat.beq v.1 3) && decide ((q50_tg 12 S.2.1 v.2.1.toNat).1 < x - v.2.2) && Nat.blt v.2.1.toNat 4096 then (S.1, q50_tp 12 S.2.1 v.2.1.toNat (x - v.2.2, (q50_tg 12 S.2.1 v.2.1.toNat).2), S.2.2) else S
def q50_hi (S : q50_S) (v : q50_V) (x : Int) : q50_S := bif (Nat.beq v.1 1 || Nat.beq v.1 3) && decide (x - v.2.2 < (q50_tg 12 S.2.1 v.2.1.toNat).2) && Nat.blt v.2.1.toNat 4096 then (S.1, q50_tp 12 S.2.1 v.2.1.toNat ((q50_tg 12 S.2.1 v.2.1.toNat).1, x - v.2.2), S.2.2) else S
def q50_sym (v : q50_V) : Bool := Nat.beq v.1 1 || Nat.beq v.1 3
/-- states in which x + d ≤ y (w: the fact is kept) -/
def q50_le (w : Bool) (S : q50_S) (x y : q50_V) (a b : Int × Int) (d : Int) : List q50_S :=
  bif decide (b.2 < a.1 + d) then [] else
    let T := q50_lo (q50_hi S x (b.2 - d)) y (a.1 + d)
    [bif w && q50_sym x && q50_sym y then (T.1, T.2.1, (x.2.1.toNat, y.2.1.toNat, x.2.2 + d - y.2.2) :: T.2.2.1, T.2.2.2) else T]
def q50_ne (S : q50_S) (x : q50_V) (a : Int × Int) (z : Int) : List q50_S :=
  bif decide (a.1 = z) && decide (a.2 = z) then []
  else bif decide (a.1 = z) then [q50_lo S x (z + 1)]
  else bif decide (a.2 = z) then [q50_hi S x (z - 1)]
  else bif decide (z = 0) && decide (a.1 < 0) && decide (0 < a.2) then [q50_hi S x (-1), q50_lo S x 1] else [S]
/-- states in which x c y -/
def q50_br (w : Bool) (S : q50_S) (c : ClassFile.Cond) (x y : q50_V) (a b : Int × Int) : List q50_S :=
  bif q50_sym x && q50_sym y && decide (x.2.1 = y.2.1) then
    (match c with
    | .eq => bif decide (x.2.2 = y.2.2) then [S] else []
    | .ne => bif decide (x.2.2 = y.2.2) then [] else [S]
    | .lt => bif decide (x.2.2 < y.2.2) then [S] else []
    | .ge => bif decide (y.2.2 ≤ x.2.2) then [S] else []
    | .gt => bif decide (y.2.2 < x.2.2) then [S] else []
    | .le => bif decide (x.2.2 ≤ y.2.2) then [S] else [])
  else match c with
    | .lt => q50_le w S x y a b 1
    | .le => q50_le w S x y a b 0
    | .gt => q50_le w S y x b a 1
    | .ge => q50_le w S y x b a 0
    | .eq => bif decide (min a.2 b.2 < max a.1 b.1) then [] else [q50_hi (q50_lo (q50_hi (q50_lo S x (max a.1 b.1)) x (min a.2 b.2)) y (max a.1 b.1)) y (min a.2 b.2)]
    | .ne => bif decide (b.1 = b.2) then q50_ne S x a b.1 else bif decide (a.1 = a.2) then q50_ne S y b a.1 else [S]
/-- what is remembered at a place -/
def q50_rf (a : Nat) (j : q50_V) : List (Nat × q50_V × q50_V) → Option q50_V
  | [] => none
  | r :: l => bif Nat.beq r.1 a && q50_veq r.2.1 j then some r.2.2 else q50_rf a j l
/-- forgotten: what stands in the cells p .. q at the places jl .. jh -/
def q50_rk (S : q50_S) (p q : Nat) (jl jh : Int) : q50_S := (S.1, S.2.1, S.2.2.1, S.2.2.2.filter fun r => Nat.blt r.1 p || Nat.blt q r.1 || (match q50_iv S r.2.1 with | some (x, y) => decide (y < jl) || decide (jh < x) | none => false))
def q50_rp (S : q50_S) (a : Nat) (j v : q50_V) : q50_S := (S.1, S.2.1, S.2.2.1, (a, j, v) :: S.2.2.2)
def q50_mkT (i : Nat) (T : q50_T 12) : List (Int × Int) → q50_T 12
  | [] => T
  | q :: r => q50_mkT (i + 1) (q50_tp 12 T i q) r
/-- v lies within what an invariant's place may hold (no symbols in it) -/
def q50_in (S : q50_S) (v g : q50_V) : Bool := match g with
  | (0, lo, hi) => bif q50_isi v then (match q50_iv S v with | some (x, y) => decide (lo ≤ x) && decide (y ≤ hi) | none => false) else false
  | (6, lo, hi) => Nat.beq v.1 6 && decide (lo ≤ v.2.1) && decide (v.2.2 ≤ hi)
  | (8, _, _) => Nat.beq (q50_cat v) 1
  | _ => false
def q50_jn (a b : q50_V) : Option q50_V := bif Nat.beq a.1 b.1 && (Nat.beq a.1 0 || Nat.beq a.1 6) then some (a.1, min a.2.1 b.2.1, max a.2.2 b.2.2) else none
/-- what may stand in a cell's places lo .. lo + n -/
def q50_gs (a lo : Nat) : Nat → Option q50_V
  | 0 => some (q51_G a lo)
  | n + 1 => match q50_gs a lo n with | some v => q50_jn v (q51_G a (lo + (n + 1))) | none => none
def q50_gr (a lo hi : Nat) : Option q50_V := bif q51_uni a then some (q51_G a 0) else bif Nat.blt (hi - lo) 64 then q50_gs a lo (hi - lo) else none
/-- in the cells a .. a + n -/
def q50_gc (lo hi : Nat) (a : Nat) : Nat → Option q50_V
  | 0 => q50_gr a lo hi
  | n + 1 => match q50_gc lo hi a n with
    | some v => match q50_gr (a + (n + 1)) lo hi with | some w => q50_jn v w | none => none
    | none => none
/-- all the numbers from a to a + n -/
def q50_al (f : Nat → Bool) (a : Nat) : Nat → Bool
  | 0 => f a
  | n + 1 => q50_al f a n && f (a + (n + 1))
/-- cells p .. q are arrays of this kind, the places up to hi are theirs -/
def q50_sh (kd p q : Nat) (hi : Int) : Bool := Nat.blt 0 p && Nat.blt q 124 && Nat.ble p q && q50_al (fun b => Nat.beq (q51_kind b) kd && decide (hi < (q51_len b : Int))) p (q - p)
/-- what a method may write: cells, places from, to -/
abbrev q50_W : Type := List (Nat × Nat × Nat)
def q50_iw (W : q50_W) (a j : Nat) : Bool := W.any fun w => Nat.beq w.1 a && Nat.ble w.2.1 j && Nat.ble j w.2.2
def q50_wr (W : q50_W) (a lo hi : Nat) : Bool := W.any fun w => Nat.beq w.1 a && Nat.ble w.2.1 lo && Nat.ble hi w.2.2
def q50_look (lv : List (Nat × q50_V)) (i : Nat) : Option q50_V := match lv with
  | [] => none
  | q :: r => bif Nat.beq q.1 i then some q.2 else q50_look r i
def q50_st1 (lv : List (Nat × q50_V)) (i : Nat) (v : q50_V) : List (Nat × q50_V) := (i, v) :: lv.filter (fun q => !(Nat.beq q.1 i) && !(Nat.beq (q.1 + 1) i && Nat.beq (q50_cat q.2) 2))
def q50_st2 (lv : List (Nat × q50_V)) (i : Nat) (v : q50_V) : List (Nat × q50_V) := (i, v) :: lv.filter (fun q => !(Nat.beq q.1 i) && (!(Nat.beq q.1 (i + 1)) && !(Nat.beq (q.1 + 1) i && Nat.beq (q50_cat q.2) 2)))
def q50_args : Nat → List q50_V → List (Nat × q50_V)
  | _, [] => []
  | i, v :: vs => (i, v) :: q50_args (i + q50_cat v) vs
def q50_cats : List q50_V → Nat
  | [] => 0
  | v :: r => q50_cat v + q50_cats r
abbrev q50_F : Type := Nat × List (Nat × q50_V) × List q50_V × Nat × Nat
abbrev q50_B : Type := q50_S × (q50_F ⊕ ((Nat × List q50_V × List q50_V) ⊕ (Option q50_V)))
def q50_fit (t : FieldType) (S : q50_S) (v : q50_V) : Bool := match t with
  | .int => q50_isi v
  | .boolean => q50_isi v && (match q50_iv S v with | some (x, y) => decide (0 ≤ x) && decide (y ≤ 1) | none => false)
  | .long => q50_isl v
  | .array _ => Nat.beq v.1 6
  | .object _ => Nat.beq v.1 6
  | _ => false
def q50_call (k y kd : Nat) (st : List q50_V) (S : q50_S) (ce sl : Nat) : Option (List q50_B) :=
  let n := q2_na y
  let as := (st.take n).reverse
  let rest := st.drop n
  bif decide (y ≠ 0) && Nat.blt y q2_n && Nat.beq (q2_kd y) kd && Nat.ble n st.length && Nat.ble (q50_cats as) (q2_ml y) && Nat.ble (q50_cats rest) 8 && Nat.ble (q2_fr y + 1) (q2_fr k) && Nat.ble (8 + (q2_ml y + 11) + q2_lo y) (q2_lo k) && Nat.ble (ce + q2_mc y) (q2_mc k) && Nat.ble (sl + q2_ms y) (q2_ms k) then
    bif Nat.beq kd 0 then some [(S, .inr (.inl (y, as, rest)))]
    else match as with
      | (6, b, b') :: _ => bif decide (0 < b) && decide (b = b') && Nat.blt b.toNat 124 && Nat.beq (q51_kind b.toNat) (q2_own y + 2) && Nat.blt (q2_own y) 8 then some [(S, .inr (.inl (y, as, rest)))] else none
      | _ => none
  else none
def q50_all {α β : Type} (f : α → Option (List β)) : List α → Option (List β)
  | [] => some []
  | a :: r => match f a with
    | some b => match q50_all f r with | some c => some (b ++ c) | none => none
    | none => none
def q50_each {α β : Type} (f : α → Option (List β)) (l : List α) : Option (List β) := match l with
  | [a] => f a
  | l => q50_all f l
def q50_ts (S : q50_S) (x : q50_V) (a : Int × Int) (go : Nat → q50_S → q50_B) : Int → List Int → List q50_B
  | _, [] => []
  | z, t :: r => (q50_br false S .eq x (q50_k z) a (z, z)).map (go t.toNat) ++ q50_ts S x a go (z + 1) r
def q50_ls (S : q50_S) (x : q50_V) (a : Int × Int) (go : Nat → q50_S → q50_B) : List (Int × Int) → List q50_B
  | [] => []
  | t :: r => (q50_br false S .eq x (q50_k t.1) a (t.1, t.1)).map (go t.2.toNat) ++ q50_ls S x a go r
/-- an instruction on values that are not all known; h: the condition behind an lcmp (0: < or >=, 1: <= or >, 2: else) -/
def q50_open (h : Nat) (w : Bool) (pc len : Nat) (lv : List (Nat × q50_V)) (st : List q50_V) (ce sl : Nat) (S : q50_S) (i : Instr) : Option (List q50_B) :=
  let go : Nat → List q50_V → q50_S → q50_B := fun q st' S' => (S', .inl (q, lv, st', ce, sl))
  match i, st with
  | .lcmp, y :: x :: r => bif q50_isl x && q50_isl y then match q50_iv S x, q50_iv S y with
      | some a, some b => bif Nat.beq h 0 then some ((q50_br w S .lt x y a b).map (go (pc + len) (q50_k (-1) :: r)) ++ (q50_br w S .ge x y a b).map (go (pc + len) ((0, 0, 1) :: r)))
        else bif Nat.beq h 1 then some ((q50_br w S .le x y a b).map (go (pc + len) ((0, -1, 0) :: r)) ++ (q50_br w S .gt x y a b).map (go (pc + len) (q50_k 1 :: r)))
        else some ((q50_br w S .lt x y a b).map (go (pc + len) (q50_k (-1) :: r)) ++ (q50_br w S .eq x y a b).map (go (pc + len) (q50_k 0 :: r)) ++ (q50_br w S .gt x y a b).map (go (pc + len) (q50_k 1 :: r)))
      | _, _ => none
    else none
  | .if_icmp c t, y :: x :: r => bif q50_isi x && q50_isi y then match q50_iv S x, q50_iv S y with
      | some a, some b => some ((q50_br w S c x y a b).map (go t.toNat r) ++ (q50_br w S (q20_neg c) x y a b).map (go (pc + len) r))
      | _, _ => none
    else none
  | .ifCond c t, x :: r => bif q50_isi x then match q50_iv S x with
      | some a => some ((q50_br w S c x (q50_k 0) a (0, 0)).map (go t.toNat r) ++ (q50_br w S (q20_neg c) x (q50_k 0) a (0, 0)).map (go (pc + len) r))
      | _ => none
    else none
  | .tableswitch d lo hi ts, x :: r => bif q50_isi x && decide (hi - lo + 1 = (ts.size : Int)) then match q50_iv S x with
      | some a => some (q50_ts S x a (fun t S' => go t r S') lo ts.toList ++ ((q50_br false S .lt x (q50_k lo) a (lo, lo)).map (go d.toNat r) ++ (q50_br false S .gt x (q50_k hi) a (hi, hi)).map (go d.toNat r)))
      | none => none
    else none
  | .lookupswitch d ps, x :: r => bif q50_isi x then match q50_iv S x with
      | some a => some (q50_ls S x a (fun t S' => go t r S') ps.toList ++ [go d.toNat r S])
      | none => none
    else none
  | i, y :: x :: r => bif Nat.beq (q20_ar i) 2 then match q50_iv S x, q50_iv S y with
      | some a, some b => bif q50_isi x && q50_isi y then match q50_o2 S i x y a b with
          | some v => some [go (pc + len) (v :: r) S]
          | none => none
        else bif q50_isl x && q50_isl y then match q50_l2 i a b with
          | some v => some [go (pc + len) (v :: r) S]
          | none => none
        else none
      | _, _ => none
    else bif Nat.beq (q20_ar i) 1 then match q50_iv S y with
      | some a => match q50_o1 S i y a with
        | some v => some [go (pc + len) (v :: x :: r) S]
        | none => none
      | none => none
    else none
  | i, x :: r => bif Nat.beq (q20_ar i) 1 then match q50_iv S x with
      | some a => match q50_o1 S i x a with
        | some v => some [go (pc + len) (v :: r) S]
        | none => none
      | none => none
    else none
  | _, _ => none
/-- what stands in a field, remembered by now -/
def q50_gf (S : q50_S) (a j : Nat) : q50_S × q50_V := match q50_rf a (q50_k j) S.2.2.2 with
  | some v => (S, v)
  | none => bif Nat.beq (q51_G a j).1 0 then (match q50_fr S (q51_G a j) with | (S1, v) => (q50_rp S1 a (q50_k j) v, v)) else (S, q51_G a j)
def q50_step (W : q50_W) (k pc len : Nat) (lv : List (Nat × q50_V)) (st : List q50_V) (ce sl : Nat) (S : q50_S) (i : Instr) : Option (List q50_B) :=
  let nx : List q50_V → Option (List q50_B) := fun st' => some [(S, .inl (pc + len, lv, st', ce, sl))]
  match i with
  | .aload n => match q50_look lv n with | some v => bif Nat.beq v.1 6 then nx (v :: st) else none | none => none
  | .iload n => match q50_look lv n with | some v => bif q50_isi v then nx (v :: st) else none | none => none
  | .lload n => match q50_look lv n with | some v => bif q50_isl v then nx (v :: st) else none | none => none
  | .astore n => match st with | v :: r => bif Nat.beq v.1 6 && Nat.blt n (q2_ml k) then some [(S, .inl (pc + len, q50_st1 lv n v, r, ce, sl))] else none | _ => none
  | .istore n => match st with | v :: r => bif q50_isi v && Nat.blt n (q2_ml k) then (match q50_fr S v with | (S1, w) => some [(S1, .inl (pc + len, q50_st1 lv n w, r, ce, sl))]) else none | _ => none
  | .lstore n => match st with | v :: r => bif q50_isl v && Nat.blt (n + 1) (q2_ml k) then (match q50_fr S v with | (S1, w) => some [(S1, .inl (pc + len, q50_st2 lv n w, r, ce, sl))]) else none | _ => none
  | .bipush v => nx (q50_k (Int32.ofInt v).toInt :: st)
  | .sipush v => nx ((2, (Int64.ofInt v).toInt, (Int64.ofInt v).toInt) :: st)
  | .dup => match st with | v :: r => bif Nat.beq (q50_cat v) 1 then nx (v :: v :: r) else none | _ => none
  | .dup2 => match st with | v :: w :: r => bif Nat.beq (q50_cat v) 1 && Nat.beq (q50_cat w) 1 then nx (v :: w :: v :: w :: r) else none | _ => none
  | .pop => match st with | v :: r => bif Nat.beq (q50_cat v) 1 then nx r else none | _ => none
  | .pop2 => match st with | v :: r => bif Nat.beq (q50_cat v) 2 then nx r else none | _ => none
  | .iinc n v => match q50_look lv n with
    | some x => bif q50_isi x && Nat.blt n (q2_ml k) then (match q50_iv S x with
      | some a => (match q50_fr S (q50_add S x (q50_k (Int32.ofInt v).toInt) a ((Int32.ofInt v).toInt, (Int32.ofInt v).toInt)) with | (S1, w) => some [(S1, .inl (pc + len, q50_st1 lv n w, st, ce, sl))])
      | none => none) else none
    | none => none
  | .goto t => some [(S, .inl (t.toNat, lv, st, ce, sl))]
  | .iaload => match st with
    | j :: (6, p, q) :: r => bif q50_isi j then (match q50_iv S j with
      | some (lo, hi) =>
        bif decide (p = 0) && decide (q = 0) then
          (match q50_rf 0 (q50_k (-1)) S.2.2.2 with
          | some (1, s, 0) => bif decide (0 ≤ lo) && Nat.beq j.1 1 && S.2.2.1.any (fun f => Nat.beq f.1 j.2.1.toNat && Nat.beq f.2.1 s.toNat && decide (j.2.2 + 1 ≤ f.2.2)) then
              (match q50_rf 0 j S.2.2.2 with
              | some v => nx (v :: r)
              | none => match q50_fr S q50_any with | (S1, v) => some [(q50_rp S1 0 j v, .inl (pc + len, lv, v :: r, ce, sl))])
            else none
          | _ => none)
        else bif decide (0 ≤ lo) && q50_sh 0 p.toNat q.toNat hi then
          (match q50_gc lo.toNat hi.toNat p.toNat (q.toNat - p.toNat) with
          | some g => bif decide (p = q) && q51_rem p.toNat && (Nat.beq j.1 1 || decide (lo = hi)) then
              (let jk := bif decide (lo = hi) then q50_k lo else j
               match q50_rf p.toNat jk S.2.2.2 with
              | some v => bif q50_isi v then nx (v :: r) else none
              | none => bif Nat.beq g.1 0 then (match q50_fr S g with | (S1, v) => some [(q50_rp S1 p.toNat jk v, .inl (pc + len, lv, v :: r, ce, sl))]) else none)
            else bif Nat.beq g.1 0 then nx (g :: r) else none
          | none => none)
        else none
      | none => none) else none
    | _ => none
  | .aaload => match st with
    | j :: (6, p, q) :: r => bif q50_isi j then (match q50_iv S j with
      | some (lo, hi) => bif decide (0 ≤ lo) && q50_sh 1 p.toNat q.toNat hi then
          (match q50_gc lo.toNat hi.toNat p.toNat (q.toNat - p.toNat) with | some g => bif Nat.beq g.1 6 then nx (g :: r) else none | none => none) else none
      | none => none) else none
    | _ => none
  | .iastore => match st with
    | v :: j :: (6, p, q) :: r => bif q50_isi v && q50_isi j then (match q50_iv S j with
      | some (lo, hi) => bif decide (0 ≤ lo) && Nat.ble 3 p.toNat && q50_sh 0 p.toNat q.toNat hi
            && q50_al (fun b => q50_wr W b lo.toNat hi.toNat && (bif q51_uni b then q50_in S v (q51_G b 0) else Nat.blt (hi - lo).toNat 64 && q50_al (fun i => q50_in S v (q51_G b i)) lo.toNat (hi - lo).toNat)) p.toNat (q.toNat - p.toNat) then
          (let S0 := q50_rk S p.toNat q.toNat lo hi
           bif decide (p = q) && q51_rem p.toNat && (Nat.beq j.1 1 || decide (lo = hi)) then
             (let jk := bif decide (lo = hi) then q50_k lo else j
              match q50_fr S0 v with | (S1, w) => some [(q50_rp S1 p.toNat jk w, .inl (pc + len, lv, r, ce, sl))])
           else some [(S0, .inl (pc + len, lv, r, ce, sl))])
        else none
      | none => none) else none
    | _ => none
  | .arraylength => match st with
    | (6, p, q) :: r => bif decide (p = 0) && decide (q = 0) then (match q50_rf 0 (q50_k (-1)) S.2.2.2 with | some v => bif q50_isi v then nx (v :: r) else none | none => none)
      else bif decide (p = q) && q50_sh 0 p.toNat q.toNat (-1) then nx (q50_k (q51_len p.toNat).toInt32.toInt :: r) else none
    | _ => none
  | .getfield f => match st with
    | (6, p, q) :: r => bif decide (p = q) && decide (0 < p) && Nat.blt p.toNat 124 && Nat.beq (q51_kind p.toNat) (f / 64 + 2) && Nat.blt (f / 64) 8 && Nat.blt (f % 64) (q2_N (f / 64)) && Nat.blt (f % 64) (q51_len p.toNat) then
        (match q50_gf S p.toNat (f % 64) with | (S1, v) => some [(S1, .inl (pc + len, lv, v :: r, ce, sl))]) else none
    | _ => none
  | .putfield f => match st with
    | v :: (6, p, q) :: r => bif decide (p = q) && decide (0 < p) && Nat.blt p.toNat 124 && Nat.beq (q51_kind p.toNat) (f / 64 + 2) && Nat.blt (f / 64) 8 && Nat.blt (f % 64) (q2_N (f / 64)) && Nat.blt (f % 64) (q51_len p.toNat)
          && q50_fit (q2_ty (f / 64) (f % 64)) S v && !(q2_T (f / 64) (f % 64)).2.2.2 && q50_in S v (q51_G p.toNat (f % 64)) && q50_wr W p.toNat (f % 64) (f % 64) then
        (match q50_fr (q50_rk S p.toNat p.toNat (f % 64 : Nat) (f % 64 : Nat)) v with | (S1, w) => some [(q50_rp S1 p.toNat (q50_k (f % 64 : Nat)) w, .inl (pc + len, lv, r, ce, sl))]) else none
    | _ => none
  | .getstatic n => bif Nat.beq n 1 || Nat.beq n 2 then nx ((6, (n : Int), (n : Int)) :: st) else none
  | .nop => match st with
    | n :: dp :: (6, p, q) :: sp :: (6, p', q') :: r => bif q50_isi n && q50_isi dp && q50_isi sp then (match q50_cst S n, q50_cst S dp, q50_cst S sp with
      | some z, some y, some x => bif decide (0 < z) && decide (z < 64) && decide (0 ≤ y) && decide (0 ≤ x) && Nat.ble 3 p.toNat && Nat.ble 3 p'.toNat && q50_sh 0 p.toNat q.toNat (y + z - 1) && q50_sh 0 p'.toNat q'.toNat (x + z - 1)
            && Nat.ble 1 (q2_fr k) && Nat.ble (q50_cats r + 18) (q2_lo k)
            && q50_al (fun b => q50_wr W b y.toNat (y.toNat + (z.toNat - 1)) && q50_al (fun a => q50_al (fun i => q50_in S (q51_G a (x.toNat + i)) (q51_G b (y.toNat + i))) 0 (z.toNat - 1)) p'.toNat (q'.toNat - p'.toNat)) p.toNat (q.toNat - p.toNat) then
          some [(q50_rk S p.toNat q.toNat y (y + z - 1), .inl (pc + len, lv, r, ce, sl))]
        else none
      | _, _, _ => none) else none
    | _ => none
  | .monitorenter => match st with | (6, _, _) :: r => bif Nat.ble 1 (q2_fr k) && Nat.ble (q50_cats r + 12) (q2_lo k) then nx r else none | _ => none
  | .ireturn => match st, q2_ret k with | [v], some t => bif q50_fit t S v && q20_ib t then some [(S, .inr (.inr (some v)))] else none | _, _ => none
  | .lreturn => match st, q2_ret k with | [v], some .long => bif q50_isl v then some [(S, .inr (.inr (some v)))] else none | _, _ => none
  | .areturn => match st, q2_ret k with | [v], some (.object _) => bif Nat.beq v.1 6 then some [(S, .inr (.inr (some v)))] else none | _, _ => none
  | .return_ => match st, q2_ret k with | [], none => some [(S, .inr (.inr none))] | _, _ => none
  | .invokestatic y => q50_call k y 0 st S ce sl
  | .invokevirtual y => q50_call k y 1 st S ce sl
  | .invokespecial y => q50_call k y 2 st S ce sl
  | _ => none
def q50_hint (k pc : Nat) : Nat := match q4_cd k pc with
  | some (.ifCond .lt _, _) => 0
  | some (.ifCond .ge _, _) => 0
  | some (.ifCond .le _, _) => 1
  | some (.ifCond .gt _, _) => 1
  | _ => 2
/-- an instruction, known values first -/
def q50_go (W : q50_W) (k pc len : Nat) (lv : List (Nat × q50_V)) (st : List q50_V) (ce sl : Nat) (S : q50_S) (i : Instr) : Option (List q50_B) :=
  bif Nat.beq (q20_ar i) 0 then q50_step W k pc len lv st ce sl S i
  else bif Nat.blt st.length (q20_ar i) then none
  else match q50_cs S (st.take (q20_ar i)) with
    | some vs => match q4_step k pc len [] vs (0, fun _ => (0, 0, fun _ => .null)) 0 0 i with
      | some (.inl (pc', _, st', _, _, _)) => match q50_as st' with
        | some as => some [(S, .inl (pc', lv, as ++ st.drop (q20_ar i), ce, sl))]
        | none => none
      | _ => none
    | none => q50_open (q50_hint k (pc + 1)) (q51_fact k pc) pc len lv st ce sl S i
/-! patterns, contracts -/
/-- a home of a symbol: (0, n, _) local n; (1, a, j) the field j of cell a; (2, i, _) the symbol i of the start -/
abbrev q50_H : Type := Nat × Nat × Nat
abbrev q50_P : Type := q50_S × List q50_H × List (Nat × q50_V)
/-- rank: (0, c) a number, (1, n) local n rising, (2, n) falling -/
abbrev q50_K : Type := List (Nat × Int)
/-- method, start, what it writes, cuts (place, rank, pattern), ends -/
abbrev q50_C : Type := Nat × q50_P × q50_W × List (Nat × q50_K × q50_P) × List q50_P
def q50_ens (S : q50_S) : List q50_H → q50_S
  | [] => S
  | (1, a, j) :: r => bif Nat.blt 0 a && Nat.blt a 124 && Nat.blt j (q51_len a) then q50_ens (q50_gf S a j).1 r else q50_ens S r
  | _ :: r => q50_ens S r
def q50_home (S : q50_S) (lv : List (Nat × q50_V)) (h : q50_H) : Option q50_V := match h with
  | (0, n, _) => q50_look lv n
  | (1, a, j) => q50_rf a (q50_k j) S.2.2.2
  | (2, i, _) => bif Nat.blt i S.1 then some (1, (i : Int), 0) else none
  | _ => none
def q50_homes (S : q50_S) (lv : List (Nat × q50_V)) : List q50_H → Option (List q50_V)
  | [] => some []
  | h :: r => match q50_home S lv h with
    | some v => match q50_homes S lv r with | some vs => some (v :: vs) | none => none
    | none => none
/-- v plus a number -/
def q50_sh' (v : q50_V) (c : Int) (l : Bool) : q50_V := match v with
  | (0, a, b) => (bif l then 2 else 0, a + c, b + c)
  | (1, i, d) => (bif l then 3 else 1, i, d + c)
  | (2, a, b) => (bif l then 2 else 0, a + c, b + c)
  | (3, i, d) => (bif l then 3 else 1, i, d + c)
  | v => v
/-- v is w + c -/
def q50_same (S : q50_S) (v w : q50_V) (c : Int) : Bool :=
  (q50_sym v && q50_sym w && decide (v.2.1 = w.2.1) && decide (v.2.2 = w.2.2 + c)) ||
  (match q50_cst S v, q50_cst S w with | some x, some y => decide (x = y + c) | _, _ => false)
/-- v lies within w, a pattern's value, its symbols standing for those of the list -/
def q50_sb (S : q50_S) (sg : List q50_V) (v w : q50_V) : Bool := match w with
  | (0, lo, hi) => q50_isi v && (match q50_iv S v with | some (x, y) => decide (lo ≤ x) && decide (y ≤ hi) | none => false)
  | (1, i, c) => q50_isi v && (match sg[i.toNat]? with | some u => q50_same S v u c | none => false)
  | (2, lo, hi) => q50_isl v && (match q50_iv S v with | some (x, y) => decide (lo ≤ x) && decide (y ≤ hi) | none => false)
  | (3, i, c) => q50_isl v && (match sg[i.toNat]? with | some u => q50_same S v u c | none => false)
  | (6, lo, hi) => Nat.beq v.1 6 && decide (lo ≤ v.2.1) && decide (v.2.2 ≤ hi)
  | (8, _, _) => Nat.beq (q50_cat v) 1
  | _ => false
/-- x + c ≤ y for symbols, by facts one behind the other -/
def q50_lfd (F : List (Nat × Nat × Int)) : Nat → Nat → Nat → Int → Bool
  | 0, i, j, c => Nat.beq i j && decide (c ≤ 0)
  | d + 1, i, j, c => (Nat.beq i j && decide (c ≤ 0)) || F.any (fun f => Nat.beq f.2.1 j && q50_lfd F d i f.1 (c - f.2.2))
/-- x + c ≤ y -/
def q50_lf (S : q50_S) (x y : q50_V) (c : Int) : Bool :=
  (match q50_iv S x, q50_iv S y with | some a, some b => decide (a.2 + c ≤ b.1) | _, _ => false) ||
  (q50_sym x && q50_sym y && decide (0 ≤ x.2.1) && decide (0 ≤ y.2.1) && q50_lfd S.2.2.1 4 x.2.1.toNat y.2.1.toNat (x.2.2 + c - y.2.2))
def q50_ivs (S : q50_S) (T : q50_T 12) : Nat → List q50_V → Bool
  | _, [] => true
  | i, v :: r => (match q50_iv S v with | some (x, y) => decide ((q50_tg 12 T i).1 ≤ x) && decide (y ≤ (q50_tg 12 T i).2) | none => false) && q50_ivs S T (i + 1) r
/-- the state lies within the pattern, its symbols standing for those of the list -/
def q50_m (S : q50_S) (lv : List (Nat × q50_V)) (sg : List q50_V) (P : q50_P) : Bool :=
  Nat.beq sg.length P.1.1 && Nat.ble P.1.1 4096 && q50_ivs S P.1.2.1 0 sg
  && P.2.2.all (fun q => match q50_look lv q.1 with | some v => q50_sb S sg v q.2 | none => false)
  && P.1.2.2.1.all (fun f => match sg[f.1]?, sg[f.2.1]? with | some x, some y => q50_lf S x y f.2.2 | _, _ => false)
  && P.1.2.2.2.all (fun r => match r.2.1 with
    | (0, j, j') => decide (j = j') && (match q50_rf r.1 r.2.1 S.2.2.2 with | some v => q50_sb S sg v r.2.2 | none => decide (0 ≤ j) && decide (r.1 < 124) && Nat.blt 0 r.1 && Nat.blt j.toNat (q51_len r.1) && q50_sb S sg (q51_G r.1 j.toNat) r.2.2)
    | _ => false)
/-- a first look: the pattern's numbers -/
def q50_pre (S : q50_S) (lv : List (Nat × q50_V)) (P : q50_P) : Bool := P.2.2.all fun q => match q.2 with
  | (0, a, b) => bif decide (a = b) then (match q50_look lv q.1 with | some v => (match q50_iv S v with | some (x, y) => decide (x = a) && decide (y = a) | none => false) | none => false) else true
  | _ => true
def q50_match (S : q50_S) (lv : List (Nat × q50_V)) (P : q50_P) : Option (q50_S × List q50_V) :=
  bif q50_pre S lv P then
    (let S1 := q50_ens S P.2.1
     match q50_homes S1 lv P.2.1 with
     | some sg => bif q50_m S1 lv sg P then some (S1, sg) else none
     | none => none)
  else none
/-- a value of an end's pattern, in the caller: its first symbols stand for the list, the others are new, from n on -/
def q50_tr (sg : List q50_V) (n : Nat) (v : q50_V) : q50_V := match v with
  | (1, i, c) => (match sg[i.toNat]? with | some u => q50_sh' u c false | none => (1, ((n + (i.toNat - sg.length) : Nat) : Int), c))
  | (3, i, c) => (match sg[i.toNat]? with | some u => q50_sh' u c true | none => (3, ((n + (i.toNat - sg.length) : Nat) : Int), c))
  | v => v
def q50_trf (sg : List q50_V) (n : Nat) : List (Nat × Nat × Int) → List (Nat × Nat × Int)
  | [] => []
  | f :: r => match q50_tr sg n (1, (f.1 : Int), 0), q50_tr sg n (1, (f.2.1 : Int), 0) with
    | (1, i, c), (1, j, d) => (i.toNat, j.toNat, c + f.2.2 - d) :: q50_trf sg n r
    | _, _ => q50_trf sg n r
def q50_nt (T T' : q50_T 12) (n m : Nat) : Nat → q50_T 12
  | 0 => T
  | d + 1 => q50_tp 12 (q50_nt T T' n m d) (n + d) (q50_tg 12 T' (m + d))
def q50_wok (W : q50_W) (S : q50_S) (r : Nat × q50_V × q50_V) : Bool := match q50_iv S r.2.1 with
  | some (x, y) => W.all (fun w => !(Nat.beq w.1 r.1) || decide (y < w.2.1) || decide ((w.2.2 : Int) < x))
  | none => false
/-- behind a call by contract, at one of its ends -/
def q50_inst (S : q50_S) (sg : List q50_V) (W : q50_W) (P : q50_P) : Option (q50_S × Option q50_V) :=
  let n := S.1
  let m := sg.length
  let d := P.1.1 - m
  bif Nat.ble m P.1.1 && Nat.ble (n + d) 4096 then
    some ((n + d, q50_nt S.2.1 P.1.2.1 n m d, q50_trf sg n P.1.2.2.1 ++ S.2.2.1, P.1.2.2.2.map (fun r => (r.1, q50_tr sg n r.2.1, q50_tr sg n r.2.2)) ++ S.2.2.2.filter (q50_wok W S)), (match P.2.2 with | [] => none | q :: _ => some (q50_tr sg n q.2)))
  else none
def q50_insts (S : q50_S) (sg : List q50_V) (W : q50_W) : List q50_P → Option (List (q50_S × Option q50_V))
  | [] => some []
  | P :: r => match q50_inst S sg W P with
    | some x => match q50_insts S sg W r with | some l => some (x :: l) | none => none
    | none => none
/-- the first contract that fits; those ahead of cur alone -/
def q50_apply (cur : Nat) (W : q50_W) (S : q50_S) (lv : List (Nat × q50_V)) : List (Nat × q50_C) → Option (List (q50_S × Option q50_V))
  | [] => none
  | c :: r => bif Nat.blt c.1 cur then (match q50_match S lv c.2.2.1 with
      | some (S1, sg) => bif c.2.2.2.1.all (fun w => q50_wr W w.1 w.2.1 w.2.2) then q50_insts S1 sg c.2.2.2.1 c.2.2.2.2.2 else none
      | none => q50_apply cur W S lv r)
    else q50_apply cur W S lv r
