/-! PAIRS OF CASKS; nearest, exact, rank, loner -/
section Q6
variable {n t : Nat} {s : Nat → Nat} {T : Nat → Nat → Nat} {o b : Nat → Nat} {σ τ : qa_S} {N : Nat}
theorem qw_tn {a c : Nat} : (10 : Int32) * nI a + nI c = nI (10 * a + c) := by rw [show (10 : Int32) * nI a = nI (10 * a) from qw_mul (a := 10), qw_add]
/-! exact -/
/-! rank -/
end Q6
