/-! taste, tells, apart -/
section Q3
variable {n t : Nat} {s : Nat → Nat} {T : Nat → Nat → Nat} {o b : Nat → Nat} {σ τ : qa_S} {N : Nat}
theorem qw_22n {u : Nat} (hn : n ≤ 7) (h : σ 4 0 = nI n) (hu : u < n) : ¬ ma_22_4 (nI u) σ = 0 := fun c => (qb_22 hn h).mp c (by rw [nI_toInt (by omega)]; omega)
end Q3
