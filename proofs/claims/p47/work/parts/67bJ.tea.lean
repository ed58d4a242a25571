/-! team: the fewest of some (bits), of several the least -/
def qs_all (f : Nat → Bool) (m : Nat) : Bool := qw_f (fun k a => a && f k) m true
theorem qs_allT {f : Nat → Bool} : ∀ m, qs_all f m = true ↔ ∀ k, k < m → f k = true := by
  intro m
  induction m with
  | zero => exact ⟨fun _ k hk => absurd hk (Nat.not_lt_zero k), fun _ => rfl⟩
  | succ m ih =>
    show (qs_all f m && f m) = true ↔ _
    rw [Bool.and_eq_true, ih]
    exact ⟨fun h k hk => by
      by_cases e : k = m
      · subst e; exact h.2
      · exact h.1 k (by omega), fun h => ⟨fun k hk => h k (by omega), h m (by omega)⟩⟩
section QJ
variable {n t : Nat} {x s : Nat → Nat} {T : Nat → Nat → Nat} {o b : Nat → Nat} {σ τ : qa_S} {N : Nat}
end QJ
