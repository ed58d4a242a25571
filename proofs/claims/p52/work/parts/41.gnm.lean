/-! numbers for the general walk -/
theorem q53_b32 {z : Int} (h1 : -2147483648 ≤ z) (h2 : z ≤ 2147483647) : z.bmod (2 ^ 32) = z := by
  have e : ((2 ^ 32 : Nat) : Int) = 4294967296 := rfl
  unfold Int.bmod
  rw [e]
  dsimp only
  split <;> omega
theorem q53_b64 {z : Int} (h1 : -9223372036854775808 ≤ z) (h2 : z ≤ 9223372036854775807) : z.bmod (2 ^ 64) = z := by
  have e : ((2 ^ 64 : Nat) : Int) = 18446744073709551616 := rfl
  unfold Int.bmod
  rw [e]
  dsimp only
  split <;> omega
theorem q53_r32 (x : Int32) : -2147483648 ≤ x.toInt ∧ x.toInt ≤ 2147483647 := by
  have h1 := Int32.le_toInt x
  have h2 := Int32.toInt_lt x
  omega
theorem q53_r64 (x : Int64) : -9223372036854775808 ≤ x.toInt ∧ x.toInt ≤ 9223372036854775807 := by
  have h1 := Int64.le_toInt x
  have h2 := Int64.toInt_lt x
  omega
theorem q53_mul {a b c d x y : Int} (h1 : 0 ≤ a) (h2 : a ≤ x) (h3 : x ≤ b) (h4 : 0 ≤ c) (h5 : c ≤ y) (h6 : y ≤ d) : a * c ≤ x * y ∧ x * y ≤ b * d :=
  ⟨Int.mul_le_mul h2 h5 h4 (by omega), Int.mul_le_mul h3 h6 (by omega) (by omega)⟩
/-- division by a positive number, cut -/
theorem q53_tdiv {x y : Int} (hy : 0 < y) : (0 ≤ x → x.tdiv y = x / y ∧ 0 ≤ x / y ∧ x / y ≤ x) ∧ (x < 0 → x ≤ x.tdiv y ∧ x.tdiv y ≤ 0) := by
  refine ⟨fun h => ⟨Int.tdiv_eq_ediv_of_nonneg h, Int.ediv_nonneg h (by omega), Int.ediv_le_self _ h⟩, fun h => ?_⟩
  have e : x.tdiv y = -((-x) / y) := by
    have h1 : (-x).tdiv y = (-x) / y := Int.tdiv_eq_ediv_of_nonneg (by omega)
    rw [Int.neg_tdiv] at h1
    omega
  have h2 : 0 ≤ (-x) / y := Int.ediv_nonneg (by omega) (by omega)
  have h3 : (-x) / y ≤ -x := Int.ediv_le_self _ (by omega)
  omega
theorem q53_idiv {X Y : Int32} (hy : 0 < Y.toInt) : (X / Y).toInt = X.toInt.tdiv Y.toInt := by
  have hx := q53_r32 X
  have h := q53_tdiv (x := X.toInt) hy
  rw [Int32.toInt_div, q53_b32]
  · rcases Int.lt_or_le X.toInt 0 with h0 | h0
    · have := h.2 h0; omega
    · have := h.1 h0; omega
  · rcases Int.lt_or_le X.toInt 0 with h0 | h0
    · have := h.2 h0; omega
    · have := h.1 h0; omega
theorem q53_irem (X Y : Int32) (hy : 0 < Y.toInt) : (X - X / Y * Y).toInt = X.toInt.tmod Y.toInt := by
  have hY := q53_r32 Y
  have h1 := Int.tmod_lt_of_pos X.toInt hy
  have h2 := Int.lt_tmod_of_pos X.toInt hy
  have e : X.toInt - X.toInt.tdiv Y.toInt * Y.toInt = X.toInt.tmod Y.toInt := by rw [Int.tmod_def, Int.mul_comm]
  rw [Int32.toInt_sub, Int32.toInt_mul, q53_idiv hy, Int.sub_bmod_bmod, e]
  exact q53_b32 (by omega) (by omega)
theorem q53_nat {x : Int32} (h : 0 ≤ x.toInt) : x.toBitVec.toNat < 2 ^ 31 ∧ x.toInt = (x.toBitVec.toNat : Int) := by
  have h1 : x.toInt = x.toBitVec.toInt := rfl
  have h2 := BitVec.toInt_eq_toNat_cond x.toBitVec
  rw [h1] at h ⊢
  have h3 := x.toBitVec.isLt
  split at h2 <;> omega
theorem q53_ofnat {x : Int32} {n : Nat} (h : x.toBitVec.toNat = n) (hn : n < 2 ^ 31) : x.toInt = (n : Int) := by
  have h1 : x.toInt = x.toBitVec.toInt := rfl
  have h2 := BitVec.toInt_eq_toNat_cond x.toBitVec
  rw [h1]
  split at h2 <;> omega
theorem q53_and {x y : Int32} (h : 0 ≤ x.toInt) : 0 ≤ (x &&& y).toInt ∧ (x &&& y).toInt ≤ x.toInt := by
  obtain ⟨h1, h2⟩ := q53_nat h
  have e : (x &&& y).toBitVec.toNat = x.toBitVec.toNat &&& y.toBitVec.toNat := by rw [Int32.toBitVec_and, BitVec.toNat_and]
  have h3 : x.toBitVec.toNat &&& y.toBitVec.toNat ≤ x.toBitVec.toNat := Nat.and_le_left
  have h4 := q53_ofnat e (by omega)
  omega
theorem q53_andr {x y : Int32} (h : 0 ≤ y.toInt) : 0 ≤ (x &&& y).toInt ∧ (x &&& y).toInt ≤ y.toInt := by
  rw [Int32.and_comm]
  exact q53_and h
theorem q53_p2 {h : Int} {n : Nat} (hn : (n : Int) ≤ h) (hh : ¬ h ≤ 0) : n < 2 ^ (Nat.log2 h.toNat + 1) := by
  have h1 : n ≤ h.toNat := by omega
  have h2 : h.toNat < 2 ^ (Nat.log2 h.toNat + 1) := Nat.lt_log2_self
  omega
theorem q53_or {x y : Int32} {a b : Int} (hx : 0 ≤ x.toInt) (hy : 0 ≤ y.toInt) (ha : x.toInt ≤ a) (hb : y.toInt ≤ b) (hp : q50_p2 (max a b) ≤ 2147483647) : (0 ≤ (x ||| y).toInt ∧ (x ||| y).toInt ≤ q50_p2 (max a b)) ∧ (0 ≤ (x ^^^ y).toInt ∧ (x ^^^ y).toInt ≤ q50_p2 (max a b)) := by
  obtain ⟨x1, x2⟩ := q53_nat hx
  obtain ⟨y1, y2⟩ := q53_nat hy
  have e1 : (x ||| y).toBitVec.toNat = x.toBitVec.toNat ||| y.toBitVec.toNat := by rw [Int32.toBitVec_or, BitVec.toNat_or]
  have e2 : (x ^^^ y).toBitVec.toNat = x.toBitVec.toNat ^^^ y.toBitVec.toNat := by rw [Int32.toBitVec_xor, BitVec.toNat_xor]
  unfold q50_p2 at hp ⊢
  cases hm : decide (max a b ≤ 0) with
  | true =>
    have hm := of_decide_eq_true hm
    have z1 : x.toBitVec.toNat = 0 := by omega
    have z2 : y.toBitVec.toNat = 0 := by omega
    rw [z1, z2] at e1 e2
    have t1 := q53_ofnat e1 (by decide)
    have t2 := q53_ofnat e2 (by decide)
    have u1 : ((0 ||| 0 : Nat) : Int) = 0 := by decide
    have u2 : ((0 ^^^ 0 : Nat) : Int) = 0 := by decide
    rw [u1] at t1
    rw [u2] at t2
    rw [cond_true]
    omega
  | false =>
    rw [hm, cond_false] at hp
    have hm := of_decide_eq_false hm
    rw [cond_false]
    have p1 := q53_p2 (h := max a b) (n := x.toBitVec.toNat) (by omega) hm
    have p2 := q53_p2 (h := max a b) (n := y.toBitVec.toNat) (by omega) hm
    have o1 := Nat.or_lt_two_pow p1 p2
    have o2 := Nat.xor_lt_two_pow p1 p2
    have t1 := q53_ofnat e1 (by omega)
    have t2 := q53_ofnat e2 (by omega)
    omega
theorem q53_shl : ∀ n, n < 31 → ((1 : Int32) <<< (nI n &&& 31)).toInt = ((2 ^ n : Nat) : Int) := by decide +kernel
theorem q53_nI {x : Int32} (h : 0 ≤ x.toInt) : x = nI x.toInt.toNat := by
  apply Int32.toInt_inj.mp
  have hx := q53_r32 x
  rw [nI_toInt (by omega)]
  omega
theorem q53_sar (x s : Int32) : min x.toInt 0 ≤ (x >>> s).toInt ∧ (x >>> s).toInt ≤ max x.toInt 0 := by
  rw [pk_shr x s _ rfl, Int.shiftRight_eq_div_pow]
  generalize (s.toBitVec.smod 32).toNat = k
  have hk0 : 0 < 2 ^ k := Nat.pow_pos (by decide)
  generalize 2 ^ k = m at hk0 ⊢
  have hk : (0 : Int) < (m : Int) := by omega
  rcases Int.lt_or_le x.toInt 0 with h | h
  · have h1 := Int.ediv_neg_of_neg_of_pos h hk
    have h2 : x.toInt ≤ x.toInt / (m : Int) := by
      apply Int.le_ediv_of_mul_le hk
      have := Int.mul_le_mul_of_nonpos_left (a := x.toInt) (b := (m : Int)) (c := 1) (by omega) (by omega)
      omega
    omega
  · have h1 := Int.ediv_nonneg h (Int.le_of_lt hk)
    have h2 := Int.ediv_le_self (m : Int) h
    omega
theorem q53_su : ∀ n, n < 32 → (((nI n).toUInt32 &&& Int32.toUInt32 31).toBitVec % 32).toNat = n := by decide +kernel
theorem q53_ushr (x : Int32) {k : Nat} (h0 : 0 < k) (hk : k < 32) {a : Int} (ha : x.toInt ≤ a) : 0 ≤ (x.toUInt32 >>> ((nI k).toUInt32 &&& Int32.toUInt32 31)).toInt32.toInt ∧ (x.toUInt32 >>> ((nI k).toUInt32 &&& Int32.toUInt32 31)).toInt32.toInt ≤ 4294967295 / ((2 ^ k : Nat) : Int) ∧ (0 ≤ x.toInt → (x.toUInt32 >>> ((nI k).toUInt32 &&& Int32.toUInt32 31)).toInt32.toInt ≤ a / ((2 ^ k : Nat) : Int)) := by
  have e := pk_ushr x (nI k) k (q53_su k hk)
  have h1 : 0 < 2 ^ k := Nat.pow_pos (by decide)
  have h2 : 2 ≤ 2 ^ k := by
    have := Nat.pow_le_pow_right (n := 2) (by decide) h0
    omega
  have h3 := x.toBitVec.isLt
  have h4 : x.toBitVec.toNat / 2 ^ k < 2 ^ 31 := by
    rw [Nat.div_lt_iff_lt_mul h1]
    omega
  have t := q53_ofnat e h4
  have c : ((x.toBitVec.toNat / 2 ^ k : Nat) : Int) = (x.toBitVec.toNat : Int) / ((2 ^ k : Nat) : Int) := rfl
  rw [t]
  refine ⟨by omega, ?_, fun h => ?_⟩
  · rw [c]
    exact Int.ediv_le_ediv (by omega) (by omega)
  · rw [c]
    have := q53_nat h
    exact Int.ediv_le_ediv (by omega) (by omega)
