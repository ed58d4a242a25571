/-! CALLS BY GLASSES: fits, sure, claim, drops -/
section QN
variable {n t : Nat} {x s : Nat → Nat} {T : Nat → Nat → Nat} {o b : Nat → Nat} {σ τ : qa_S} {N : Nat}
theorem qk_72i (h : σ 3 18 = 0) : ma_72_3 N σ = σ := by
  unfold ma_72_3
  dsimp only [qa_in]
  rw [if_pos h]
def qs_Zw (a j : Nat) : Prop := a = 81 ∨ a = 82 ∨ a = 94 ∨ (a = 3 ∧ j = 18) ∨ a = 73 ∨ (75 ≤ a ∧ a ≤ 79)
end QN
