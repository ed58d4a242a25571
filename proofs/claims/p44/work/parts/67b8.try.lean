/-! GLASSES TRIED; gone, hidden, substitutes -/
def qs_up (s : Nat → Nat) (c v : Nat) : Nat → Nat := fun k => if k == c then v else s k
section Q8
variable {n t : Nat} {x s : Nat → Nat} {T : Nat → Nat → Nat} {o b : Nat → Nat} {σ τ : qa_S} {N : Nat}
end Q8
