/-! BITS -/
def qs_ct (p : Nat → Bool) (n : Nat) : Nat := qw_f (fun k a => if p k then a + 1 else a) n 0
theorem qs_ctx {p q : Nat → Bool} {n : Nat} (h : ∀ k, k < n → p k = q k) : qs_ct p n = qs_ct q n := qw_fx (fun k x hk => by rw [h k hk])
theorem qs_ctl {p : Nat → Bool} {n : Nat} : qs_ct p n ≤ n := qw_fI (fun k a => a ≤ k) (Nat.le_refl 0) (fun k x _ hx => by split <;> omega)