/-! hints, printed by wip/gen/g.py: where a symbol is taken apart; which argument is taken apart at a call -/
def q51_spl : List (Nat × (Nat × Nat × Nat) × List Int) := [(2031616, (0, 2, 0), [0, 1, 2, 6, 7]), (2752576, (2, 0, 0), []), (4784128, (1, 4, 0), []), (5177344, (1, 73, 0), []), (6291456, (1, 89, 0), []), (6750314, (0, 4, 0), []), (6750317, (0, 8, 0), []), (11010048, (1, 99, 32), []), (11534336, (1, 99, 32), []), (12779520, (1, 99, 0), []), (13631488, (0, 0, 0), []), (13893632, (1, 99, 0), []), (15466496, (1, 99, 0), [])]
def q51_spf (q : Nat) : List (Nat × (Nat × Nat × Nat) × List Int) → Option ((Nat × Nat × Nat) × List Int)
  | [] => none
  | r :: l => bif Nat.beq r.1 q then some r.2 else q51_spf q l
def q51_sp (k pc : Nat) : Option ((Nat × Nat × Nat) × List Int) := bif Nat.beq k 31 || Nat.beq k 42 || Nat.beq k 73 || Nat.beq k 79 || Nat.beq k 96 || Nat.beq k 103 || Nat.beq k 168 || Nat.beq k 176 || Nat.beq k 195 || Nat.beq k 208 || Nat.beq k 212 || Nat.beq k 236 then q51_spf (k * 65536 + pc) q51_spl else none
def q51_ca (y : Nat) : Option (Nat × List Int) := bif Nat.beq y 248 then some (1, [0, 4]) else (bif Nat.beq y 204 then some (0, [0]) else (bif Nat.beq y 141 then some (1, [0, 4]) else (none)))
abbrev q50_L : Type := q50_S × (Option q50_V ⊕ (Nat × List (Nat × q50_V) × Nat × Nat))
/-- where an interval is taken apart: at the numbers told, or, none told, in the middle -/
def q50_bd (a b : Int) : List Int → Option Int
  | [] => none
  | c :: r => bif decide (a < c) && decide (c ≤ b) then some c else q50_bd a b r
def q50_bp (a b : Int) (bs : List Int) : Option Int := match bs with
  | [] => bif decide (a < b) then some (a + (b - a) / 2 + 1) else none
  | _ => q50_bd a b bs
def q50_spv (S : q50_S) (v : q50_V) (bs : List Int) : Option (q50_V × Int) := bif q50_sym v then (match q50_iv S v with | some (a, b) => (match q50_bp a b bs with | some c => some (v, c) | none => none) | none => none) else none
/-- what is known of the changes kept, used: a change of a share, so its value is not large -/
def q50_jr (S : q50_S) : List (Nat × q50_V × q50_V) → q50_S
  | [] => S
  | r :: l => bif Nat.beq r.1 87 && Nat.beq r.2.1.1 1 && q50_isi r.2.2 && (match q50_cst S r.2.2 with | some z => decide (z = -1) | none => false) && (match q50_iv S r.2.1 with | some (a, b) => decide (0 ≤ a) && decide (b ≤ 7) | none => false) then
      (match q50_rf 88 r.2.1 S.2.2.2 with | some w => bif Nat.beq w.1 1 then q50_hi S w 207 else S | none => S)
    else q50_jr S l
/-- a place where a symbol is taken apart -/
def q50_spl (S : q50_S) (lv : List (Nat × q50_V)) (h : q50_H × List Int) : q50_S × Option (q50_V × Int) := match h with
  | ((0, n, _), bs) => (S, match q50_look lv n with | some v => q50_spv S v bs | none => none)
  | ((1, a, j), bs) => bif Nat.blt 0 a && Nat.blt a 124 && Nat.blt j (q51_len a) then (match q50_gf S a j with | (S1, v) => (S1, q50_spv S1 v bs)) else (S, none)
  | ((2, _, _), _) => (q50_jr S S.2.2.2, none)
  | _ => (S, none)
def q50_rs (v : q50_V) : q50_S → List Int → List q50_S
  | S, [] => [S]
  | S, c :: r => match q50_iv S v with
    | some (a, b) => bif q50_sym v && decide (a < c) && decide (c ≤ b) then q50_hi S v (c - 1) :: q50_rs v (q50_lo S v c) r else q50_rs v S r
    | none => [S]
/-- at a call by contract: an argument taken apart -/
def q50_ca (S : q50_S) (lv : List (Nat × q50_V)) (h : Option (Nat × List Int)) : List q50_S := match h with
  | none => [S]
  | some (n, bs) => match q50_look lv n with | some v => q50_rs v S bs | none => [S]
/-- what a run writes itself: not the cells of which more is known -/
def q50_nj (W : q50_W) : q50_W := W.filter fun w => !(Nat.beq w.1 87) && !(Nat.beq w.1 88)
/-- all ends of a run -/
noncomputable def q50_run (Γ : Nat → List (Nat × q50_C)) (cur : Nat) (W : q50_W) (hs : List Nat) (f : Nat) : Nat → Nat → List (Nat × q50_V) → List q50_V → Nat → Nat → q50_S → Bool → Bool → Option (List q50_L) :=
  Nat.rec (motive := fun _ => Nat → Nat → List (Nat × q50_V) → List q50_V → Nat → Nat → q50_S → Bool → Bool → Option (List q50_L)) (fun _ _ _ _ _ _ _ _ _ => none)
    (fun _ ih k pc lv st ce sl S top fst =>
      bif top && !fst && hs.any (Nat.beq pc) then (match st with | [] => some [(S, .inr (pc, lv, ce, sl))] | _ => none)
      else match (match q51_sp k pc with | some h => q50_spl S lv h | none => (S, none)) with
      | (S0, some (v, c)) => q50_each (fun S1 => ih k pc lv st ce sl S1 top true) [q50_hi S0 v (c - 1), q50_lo S0 v c]
      | (S0, none) => match q4_cd k pc with
        | none => none
        | some (i, len) => match q50_go (q50_nj W) k pc len lv st ce sl S0 i with
          | none => none
          | some bs => q50_each (fun b => match b with
            | (S', .inl (pc', lv', st', ce', sl')) => ih k pc' lv' st' ce' sl' S' top false
            | (S', .inr (.inl (y, as, rest))) => match Γ y with
              | [] => (match q50_frs S' as with
                | (S1, as1) => match ih y 0 (q50_args 0 as1) [] 0 0 S1 false true with
                  | none => none
                  | some outs => q50_each (fun o => match o with
                    | (S2, .inl v) => ih k (pc + 3) lv (v.toList ++ rest) (ce + q2_mc y) (sl + q2_ms y) S2 top false
                    | (_, .inr _) => none) outs)
              | cs => (match q50_frs S' as with
                | (S1, as1) => q50_each (fun S2 => match q50_apply cur W S2 (q50_args 0 as1) cs with
                  | none => none
                  | some outs => q50_each (fun o => match o with | (S3, v) => ih k (pc + 3) lv (v.toList ++ rest) (ce + q2_mc y) (sl + q2_ms y) S3 top false) outs) (q50_ca S1 (q50_args 0 as1) (q51_ca y)))
            | (S', .inr (.inr v)) => some [(S', .inl v)]) bs) f
def q50_rv (lv : List (Nat × q50_V)) (r : Nat × Int) : Option q50_V := bif Nat.beq r.1 0 then some (q50_k r.2) else q50_look lv r.2.toNat
/-- the rank has risen -/
def q50_up (S : q50_S) (la lb : List (Nat × q50_V)) : q50_K → q50_K → Bool
  | x :: r, y :: s => Nat.beq x.1 y.1 && (match q50_rv la x, q50_rv lb y with
    | some v, some w => (bif Nat.beq x.1 2 then q50_lf S w v 1 else q50_lf S v w 1) || (q50_same S v w 0 && q50_up S la lb r s)
    | _, _ => false)
  | _, _ => false
def q50_leaf (ce0 sl0 : Nat) (c : q50_C) (rk : Option (List (Nat × q50_V) × q50_K)) (o : q50_L) : Bool := match o with
  | (S, .inl none) => c.2.2.2.2.any (fun P => (match P.2.2 with | [] => true | _ => false) && (match q50_match S [] P with | some _ => true | none => false))
  | (S, .inl (some v)) => c.2.2.2.2.any (fun P => (match P.2.2 with | [] => false | _ => true) && (match q50_match S [(0, v)] P with | some _ => true | none => false))
  | (S, .inr (pc, lv, ce, sl)) => Nat.beq ce ce0 && Nat.beq sl sl0 && c.2.2.2.1.any (fun q => Nat.beq q.1 pc && (match q50_match S lv q.2.2 with | some _ => true | none => false) && (match rk with | none => true | some (la, ra) => q50_up S la lv ra q.2.1))
noncomputable def q50_seg (Γ : Nat → List (Nat × q50_C)) (cur ce sl : Nat) (c : q50_C) (f pc : Nat) (P : q50_P) (rk : Option (List (Nat × q50_V) × q50_K)) : Bool :=
  match q50_run Γ cur c.2.2.1 (c.2.2.2.1.map (fun q => q.1)) f c.1 pc P.2.2 [] ce sl P.1 true true with
  | some ls => ls.all (q50_leaf ce sl c rk)
  | none => false
/-- the first n homes are the start's symbols -/
def q50_gh : Nat → Nat → List q50_H → Bool
  | _, 0, _ => true
  | i, n + 1, (2, j, _) :: r => Nat.beq j i && q50_gh (i + 1) n r
  | _, _, _ => false
noncomputable def q50_chk (Γ : Nat → List (Nat × q50_C)) (f cur : Nat) (c : q50_C) : Bool :=
  c.2.2.2.1.all (fun q => q50_gh 0 c.2.1.1.1 q.2.2.2.1) && c.2.2.2.2.all (fun P => q50_gh 0 c.2.1.1.1 P.2.1)
  && q50_seg Γ cur 0 0 c f 0 c.2.1 none && c.2.2.2.1.all (fun q => q50_seg Γ cur 0 0 c f q.1 q.2.2 (some (q.2.2.2.2, q.2.1)))
