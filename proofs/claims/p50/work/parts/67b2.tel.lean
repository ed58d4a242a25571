/-! TELLING, MIXING: values by natural numbers -/
section QS
variable {σ : qa_S} {N o b l2 l3 : Nat} {x y : Nat → Nat}
end QS
section QS2
variable {n t : Nat} {s : Nat → Nat} {T : Nat → Nat → Nat} {o b : Nat → Nat} {σ τ : qa_S} {N : Nat}
/-! mixing -/
def qs_sm (f : Nat → Nat) (n : Nat) : Nat := qw_f (fun c a => a + f c) n 0
theorem qs_smx {f g : Nat → Nat} {n : Nat} (h : ∀ k, k < n → f k = g k) : qs_sm f n = qs_sm g n := qw_fx (fun k x hk => by rw [h k hk])
theorem qs_sml {f : Nat → Nat} {n h : Nat} (hf : ∀ k, k < n → f k ≤ h) : qs_sm f n ≤ n * h := by
  refine qw_fI (F := fun c a => a + f c) (fun k a => a ≤ k * h) (by omega) (fun k x hk hx => ?_)
  have := hf k hk
  have e : (k + 1) * h = k * h + h := Nat.succ_mul k h
  omega
end QS2
