/-! CASKS AGAINST EACH OTHER: range, nearest, twin, exact, rank, loner -/
section Q5
variable {n t : Nat} {s : Nat → Nat} {T : Nat → Nat → Nat} {o b : Nat → Nat} {σ τ : qa_S} {N : Nat}
/-! the least, the most -/
theorem qw_n9 {k : Nat} (h : k < 2147483648) : nI k ≠ -9 := by
  intro e
  have e2 := congrArg Int32.toInt e
  have e9 : (-9 : Int32).toInt = -9 := by decide
  rw [nI_toInt h] at e2
  omega
end Q5
