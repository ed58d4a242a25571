/-! BITS OVER ALL TWO -/
theorem qw_fs {A : Type} {F : Nat → A → A} {n : Nat} {a : A} : qw_f F (n + 1) a = F n (qw_f F n a) := rfl
section QG
variable {n t : Nat} {x s : Nat → Nat} {T : Nat → Nat → Nat} {o b : Nat → Nat} {σ τ : qa_S} {N : Nat}
end QG
