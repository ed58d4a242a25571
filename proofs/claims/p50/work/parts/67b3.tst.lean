/-! taste, tells, apart -/
section Q3
variable {n t : Nat} {s : Nat → Nat} {T : Nat → Nat → Nat} {o b : Nat → Nat} {σ τ : qa_S} {N : Nat}
theorem qv_P2 (F : qb_F qb_sm2 σ τ) (P : qv_P n t s T o b σ) : qv_P n t s T o b (qa_u τ 99 9 0) := qv_PF (qb_Fu (w := fun a j => a = 99 ∧ j = 9) ⟨rfl, rfl⟩) (fun a j h c => by omega) (qv_PF F (fun a j h c => by unfold qb_sm2 qb_sc at c; omega) P)
theorem qw_n0 {u : Nat} (h : u < 2147483648) : ¬ nI u < (0 : Int32) := qb_ltF (b := 0) (Nat.zero_le u) h
end Q3
