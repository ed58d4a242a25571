/-! BITS -/
theorem qw_or {a b : Nat} : nI a ||| nI b = nI (a ||| b) := by
  apply Int32.toBitVec_inj.mp
  show BitVec.ofNat 32 a ||| BitVec.ofNat 32 b = BitVec.ofNat 32 (a ||| b)
  rw [BitVec.ofNat_or]
theorem qw_an {a b : Nat} : nI a &&& nI b = nI (a &&& b) := by
  apply Int32.toBitVec_inj.mp
  show BitVec.ofNat 32 a &&& BitVec.ofNat 32 b = BitVec.ofNat 32 (a &&& b)
  rw [BitVec.ofNat_and]
def qs_ct (p : Nat → Bool) (n : Nat) : Nat := qw_f (fun k a => if p k then a + 1 else a) n 0
theorem qs_ctx {p q : Nat → Bool} {n : Nat} (h : ∀ k, k < n → p k = q k) : qs_ct p n = qs_ct q n := qw_fx (fun k x hk => by rw [h k hk])
theorem qs_ctl {p : Nat → Bool} {n : Nat} : qs_ct p n ≤ n := qw_fI (fun k a => a ≤ k) (Nat.le_refl 0) (fun k x _ hx => by split <;> omega)
theorem qs_ct0 {p : Nat → Bool} : ∀ n, qs_ct p n = 0 ↔ ∀ k, k < n → p k = false := by
  intro n
  induction n with
  | zero => exact ⟨fun _ k hk => absurd hk (Nat.not_lt_zero k), fun _ => rfl⟩
  | succ n ih =>
    show (if p n then qs_ct p n + 1 else qs_ct p n) = 0 ↔ _
    cases h : p n
    · rw [if_neg Bool.false_ne_true, ih]
      exact ⟨fun g k hk => by
        by_cases c : k = n
        · subst c; exact h
        · exact g k (by omega), fun g k hk => g k (by omega)⟩
    · rw [if_pos rfl]
      exact ⟨fun g => by omega, fun g => by rw [g n (by omega)] at h; cases h⟩