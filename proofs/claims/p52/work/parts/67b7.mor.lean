/-! WHO TELLS ALIKE; loner, like -/
theorem qw_ltT {x : Int32} {k n : Nat} (h : x = nI n) (hk : k < n) (hn : n < 2147483648) : nI k < x := by rw [h]; exact qb_ltT hk hn
theorem qw_ltF {x : Int32} {n : Nat} (h : x = nI n) (hn : n < 2147483648) : ¬ nI n < x := by rw [h]; exact qb_ltF (Nat.le_refl n) hn
section Q7
variable {n t : Nat} {s : Nat → Nat} {T : Nat → Nat → Nat} {o b : Nat → Nat} {σ τ : qa_S} {N : Nat}
/-! loner -/
end Q7
