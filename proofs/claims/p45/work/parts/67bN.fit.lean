/-! CALLS BY GLASSES: fits, sure, claim, drops -/
section QN
variable {n t : Nat} {x s : Nat → Nat} {T : Nat → Nat → Nat} {o b : Nat → Nat} {σ τ : qa_S} {N : Nat}
theorem qk_72i (h : σ 3 18 = 0) : ma_72_3 N σ = σ := by
  unfold ma_72_3
  dsimp only [qa_in]
  rw [if_pos h]
def qs_Zw (a j : Nat) : Prop := a = 81 ∨ a = 82 ∨ a = 94 ∨ (a = 3 ∧ j = 18) ∨ a = 73 ∨ (75 ≤ a ∧ a ≤ 79)
theorem qw_ge {x1 : Int32} (h : ¬ x1 < -1) (h1 : x1 ≠ -1) : ∃ i, i < 2147483648 ∧ x1 = nI i := by
  have e : (-1 : Int32).toInt = -1 := by decide
  rw [Int32.lt_iff_toInt_lt, e] at h
  have n1 : x1.toInt ≠ -1 := fun c => h1 (Int32.toInt_inj.mp (c.trans e.symm))
  have r := q53_r32 x1
  exact ⟨x1.toInt.toNat, by omega, q53_nI (by omega)⟩
end QN
