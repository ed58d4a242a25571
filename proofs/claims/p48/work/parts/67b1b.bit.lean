/-! BITS -/
theorem qw_or {a b : Nat} : nI a ||| nI b = nI (a ||| b) := by
  apply Int32.toBitVec_inj.mp
  show BitVec.ofNat 32 a ||| BitVec.ofNat 32 b = BitVec.ofNat 32 (a ||| b)
  rw [BitVec.ofNat_or]
theorem qw_an {a b : Nat} : nI a &&& nI b = nI (a &&& b) := by
  apply Int32.toBitVec_inj.mp
  show BitVec.ofNat 32 a &&& BitVec.ofNat 32 b = BitVec.ofNat 32 (a &&& b)
  rw [BitVec.ofNat_and]
theorem qw_sh : ∀ k, k < 31 → (1 : Int32) <<< (nI k &&& 31) = nI (2 ^ k) := by decide +kernel
/-- the bits for which it holds -/
def qs_en (p : Nat → Bool) (n : Nat) : Nat := qw_f (fun k a => if p k then a + 2 ^ k else a) n 0
theorem qs_enl {p : Nat → Bool} : ∀ n, qs_en p n < 2 ^ n := by
  intro n
  induction n with
  | zero => exact Nat.one_pos
  | succ n ih =>
    show (if p n then qs_en p n + 2 ^ n else qs_en p n) < 2 ^ (n + 1)
    have e : 2 ^ (n + 1) = 2 ^ n + 2 ^ n := by rw [Nat.pow_succ]; omega
    split <;> omega
theorem qs_enx {p q : Nat → Bool} {n : Nat} (h : ∀ k, k < n → p k = q k) : qs_en p n = qs_en q n := qw_fx (fun k x hk => by rw [h k hk])
theorem qs_eno {p : Nat → Bool} {k : Nat} (hk : k < 31) : nI (qs_en p k) ||| ((1 : Int32) <<< (nI k &&& 31)) = nI (qs_en p k + 2 ^ k) := by
  rw [qw_sh k hk, qw_or]
  have h := Nat.two_pow_add_eq_or_of_lt (qs_enl (p := p) k) 1
  rw [Nat.mul_one] at h
  rw [Nat.or_comm, ← h, Nat.add_comm]
theorem qs_ent {p : Nat → Bool} : ∀ n k, (qs_en p n).testBit k = (decide (k < n) && p k) := by
  intro n
  induction n with
  | zero => intro k; exact Nat.zero_testBit k
  | succ n ih =>
    intro k
    show (if p n then qs_en p n + 2 ^ n else qs_en p n).testBit k = _
    by_cases c : k = n
    · subst c
      rw [decide_eq_true (Nat.lt_succ_self k), Bool.true_and]
      cases hp : p k
      · rw [if_neg Bool.false_ne_true, ih k, hp, Bool.and_false]
      · rw [if_pos rfl, Nat.add_comm, Nat.testBit_two_pow_add_eq, ih k, decide_eq_false (Nat.lt_irrefl k)]
        rfl
    · have e : decide (k < n + 1) = decide (k < n) := by
        by_cases h : k < n
        · rw [decide_eq_true h, decide_eq_true (by omega)]
        · rw [decide_eq_false h, decide_eq_false (by omega)]
      rw [e]
      cases hp : p n
      · rw [if_neg Bool.false_ne_true, ih k]
      · rw [if_pos rfl]
        by_cases h : k < n
        · rw [Nat.add_comm, Nat.testBit_two_pow_add_gt h, ih k]
        · have h1 : qs_en p n + 2 ^ n < 2 ^ k := by
            have := qs_enl (p := p) n
            have e1 : 2 ^ (n + 1) = 2 ^ n + 2 ^ n := by rw [Nat.pow_succ]; omega
            have e2 : 2 ^ (n + 1) ≤ 2 ^ k := Nat.pow_le_pow_right (by omega) (by omega)
            omega
          rw [Nat.testBit_lt_two_pow h1, decide_eq_false h, Bool.false_and]
/-- all of them -/
theorem qs_en1 : ∀ n, qs_en (fun _ => true) n = 2 ^ n - 1 := by
  intro n
  induction n with
  | zero => rfl
  | succ n ih =>
    show qs_en (fun _ => true) n + 2 ^ n = 2 ^ (n + 1) - 1
    rw [ih, Nat.pow_succ]
    have := Nat.two_pow_pos n
    omega
def qs_ct (p : Nat → Bool) (n : Nat) : Nat := qw_f (fun k a => if p k then a + 1 else a) n 0
theorem qs_ctx {p q : Nat → Bool} {n : Nat} (h : ∀ k, k < n → p k = q k) : qs_ct p n = qs_ct q n := qw_fx (fun k x hk => by rw [h k hk])
theorem qs_ctl {p : Nat → Bool} {n : Nat} : qs_ct p n ≤ n := qw_fI (fun k a => a ≤ k) (Nat.le_refl 0) (fun k x _ hx => by split <;> omega)
theorem qs_ctp {p : Nat → Bool} {n : Nat} : ∀ j, qs_ct (fun k => decide (k < n) && p k) (n + j) = qs_ct p n := by
  intro j
  induction j with
  | zero => exact qs_ctx (fun k hk => by rw [decide_eq_true (show k < n from hk), Bool.true_and])
  | succ j ih =>
    show (if (decide (n + j < n) && p (n + j)) = true then qs_ct (fun k => decide (k < n) && p k) (n + j) + 1 else qs_ct (fun k => decide (k < n) && p k) (n + j)) = _
    rw [decide_eq_false (by omega), Bool.false_and, if_neg Bool.false_ne_true, ih]