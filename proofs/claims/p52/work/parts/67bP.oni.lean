/-! FRACTIONS: Euclid on both sides -/
def nL (n : Nat) : Int64 := Int64.ofNat n
/-! onions -/
section QP
variable {n t : Nat} {x s : Nat → Nat} {T : Nat → Nat → Nat} {o b : Nat → Nat} {σ τ : qa_S} {N : Nat}
end QP
