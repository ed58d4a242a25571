/-! BITS -/
theorem qw_or {a b : Nat} : nI a ||| nI b = nI (a ||| b) := by
  apply Int32.toBitVec_inj.mp
  show BitVec.ofNat 32 a ||| BitVec.ofNat 32 b = BitVec.ofNat 32 (a ||| b)
  rw [BitVec.ofNat_or]
theorem qw_sh : ∀ k, k < 31 → (1 : Int32) <<< (nI k &&& 31) = nI (2 ^ k) := by decide +kernel
/-- the bits for which it holds -/
def qs_en (p : Nat → Bool) (n : Nat) : Nat := qw_f (fun k a => if p k then a + 2 ^ k else a) n 0
theorem qs_enl {p : Nat → Bool} : ∀ n, qs_en p n < 2 ^ n := by
  intro n
  induction n with
  | zero => exact Nat.one_pos
  | succ n ih =>
    show (if p n then qs_en p n + 2 ^ n else qs_en p n) < 2 ^ (n + 1)
    have e : 2 ^ (n + 1) = 2 ^ n + 2 ^ n := by rw [Nat.pow_succ]; omega
    split <;> omega
theorem qs_enx {p q : Nat → Bool} {n : Nat} (h : ∀ k, k < n → p k = q k) : qs_en p n = qs_en q n := qw_fx (fun k x hk => by rw [h k hk])
theorem qs_eno {p : Nat → Bool} {k : Nat} (hk : k < 31) : nI (qs_en p k) ||| ((1 : Int32) <<< (nI k &&& 31)) = nI (qs_en p k + 2 ^ k) := by
  rw [qw_sh k hk, qw_or]
  have h := Nat.two_pow_add_eq_or_of_lt (qs_enl (p := p) k) 1
  rw [Nat.mul_one] at h
  rw [Nat.or_comm, ← h, Nat.add_comm]
theorem qs_ent {p : Nat → Bool} : ∀ n k, (qs_en p n).testBit k = (decide (k < n) && p k) := by
  intro n
  induction n with
  | zero => intro k; exact Nat.zero_testBit k
  | succ n ih =>
    intro k
    show (if p n then qs_en p n + 2 ^ n else qs_en p n).testBit k = _
    by_cases c : k = n
    · subst c
      rw [decide_eq_true (Nat.lt_succ_self k), Bool.true_and]
      cases hp : p k
      · rw [if_neg Bool.false_ne_true, ih k, hp, Bool.and_false]
      · rw [if_pos rfl, Nat.add_comm, Nat.testBit_two_pow_add_eq, ih k, decide_eq_false (Nat.lt_irrefl k)]
        rfl
    · have e : decide (k < n + 1) = decide (k < n) := by
        by_cases h : k < n
        · rw [decide_eq_true h, decide_eq_true (by omega)]
        · rw [decide_eq_false h, decide_eq_false (by omega)]
      rw [e]
      cases hp : p n
      · rw [if_neg Bool.false_ne_true, ih k]
      · rw [if_pos rfl]
        by_cases h : k < n
        · rw [Nat.add_comm, Nat.testBit_two_pow_add_gt h, ih k]
        · have h1 : qs_en p n + 2 ^ n < 2 ^ k := by
            have := qs_enl (p := p) n
            have e1 : 2 ^ (n + 1) = 2 ^ n + 2 ^ n := by rw [Nat.pow_succ]; omega
            have e2 : 2 ^ (n + 1) ≤ 2 ^ k := Nat.pow_le_pow_right (by omega) (by omega)
            omega
          rw [Nat.testBit_lt_two_pow h1, decide_eq_false h, Bool.false_and]
theorem qs_enj {p q : Nat → Bool} {n : Nat} (h : qs_en p n = qs_en q n) : ∀ k, k < n → p k = q k := by
  intro k hk
  have e : (qs_en p n).testBit k = (qs_en q n).testBit k := by rw [h]
  rw [qs_ent, qs_ent, decide_eq_true hk, Bool.true_and, Bool.true_and] at e
  exact e
/-- all of them -/
theorem qs_en1 : ∀ n, qs_en (fun _ => true) n = 2 ^ n - 1 := by
  intro n
  induction n with
  | zero => rfl
  | succ n ih =>
    show qs_en (fun _ => true) n + 2 ^ n = 2 ^ (n + 1) - 1
    rw [ih, Nat.pow_succ]
    have := Nat.two_pow_pos n
    omega
theorem qs_ev : ∀ t, t ≤ 7 → ((1 : Int32) <<< (nI t &&& 31)) - 1 = nI (2 ^ t - 1) := by
  have h : ∀ t, t < 8 → ((1 : Int32) <<< (nI t &&& 31)) - 1 = nI (2 ^ t - 1) := by decide
  exact fun t ht => h t (by omega)
def qs_ct (p : Nat → Bool) (n : Nat) : Nat := qw_f (fun k a => if p k then a + 1 else a) n 0
theorem qs_ctl {p : Nat → Bool} {n : Nat} : qs_ct p n ≤ n := qw_fI (fun k a => a ≤ k) (Nat.le_refl 0) (fun k x _ hx => by split <;> omega)
theorem qs_ct0 {p : Nat → Bool} : ∀ n, qs_ct p n = 0 ↔ ∀ k, k < n → p k = false := by
  intro n
  induction n with
  | zero => exact ⟨fun _ k hk => absurd hk (Nat.not_lt_zero k), fun _ => rfl⟩
  | succ n ih =>
    show (if p n then qs_ct p n + 1 else qs_ct p n) = 0 ↔ _
    cases h : p n
    · rw [if_neg Bool.false_ne_true, ih]
      exact ⟨fun g k hk => by
        by_cases c : k = n
        · subst c; exact h
        · exact g k (by omega), fun g k hk => g k (by omega)⟩
    · rw [if_pos rfl]
      exact ⟨fun g => by omega, fun g => by rw [g n (by omega)] at h; cases h⟩