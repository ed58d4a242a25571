/-! BITS OVER ALL TWO -/
/-- some of them -/
def qs_any (f : Nat → Bool) (t : Nat) : Bool := qw_f (fun i a => a || f i) t false
section QG
variable {n t : Nat} {x s : Nat → Nat} {T : Nat → Nat → Nat} {o b : Nat → Nat} {σ τ : qa_S} {N : Nat}
end QG
