/-! alike, blind: how many of the bits, the first of them -/
section QI
variable {n t : Nat} {x s : Nat → Nat} {T : Nat → Nat → Nat} {o b : Nat → Nat} {σ τ : qa_S} {N : Nat}
theorem qs_2t (ht : t ≤ 6) : 2 ^ t ≤ 64 := Nat.le_trans (Nat.pow_le_pow_right (by omega) ht) (by decide : 2 ^ 6 ≤ 64)
end QI
