/-! CASKS AGAINST EACH OTHER: range, nearest, twin, exact, rank, loner -/
section Q5
variable {n t : Nat} {s : Nat → Nat} {T : Nat → Nat → Nat} {o b : Nat → Nat} {σ τ : qa_S} {N : Nat}
/-! the least, the most -/
theorem qs_max (X D : Nat → Int32) {n : Nat} (hX : ∀ k, k < n → X k ≠ -9) (hD : ∀ k, k < n → -1 < D k) : ((qw_f (fun k (a : Int32 × Int32) => (if a.1 = -9 then X k else (if a.2 < D k then X k else a.1), if a.1 = -9 then D k else (if a.2 < D k then D k else a.2))) n (-9, 0)) = (-9, 0) ∧ (qw_f (fun k (a : Int32 × Int32) => (if a.2 < D k then X k else a.1, if a.2 < D k then D k else a.2)) n (-9, -1)) = (-9, -1)) ∨ ((qw_f (fun k (a : Int32 × Int32) => (if a.1 = -9 then X k else (if a.2 < D k then X k else a.1), if a.1 = -9 then D k else (if a.2 < D k then D k else a.2))) n (-9, 0)) = (qw_f (fun k (a : Int32 × Int32) => (if a.2 < D k then X k else a.1, if a.2 < D k then D k else a.2)) n (-9, -1)) ∧ (qw_f (fun k (a : Int32 × Int32) => (if a.2 < D k then X k else a.1, if a.2 < D k then D k else a.2)) n (-9, -1)).1 ≠ -9 ∧ -1 < (qw_f (fun k (a : Int32 × Int32) => (if a.2 < D k then X k else a.1, if a.2 < D k then D k else a.2)) n (-9, -1)).2) := by
  refine qw_f2 (n := n) (fun _ (x y : Int32 × Int32) => (x = (-9, 0) ∧ y = (-9, -1)) ∨ (x = y ∧ y.1 ≠ -9 ∧ -1 < y.2)) (Or.inl ⟨rfl, rfl⟩) (fun k x y hk hxy => ?_)
  rcases hxy with ⟨rfl, rfl⟩ | ⟨rfl, h2, h3⟩
  · refine Or.inr ⟨?_, ?_, ?_⟩
    · dsimp only
      rw [if_pos rfl, if_pos rfl, if_pos (hD k hk), if_pos (hD k hk)]
    · dsimp only
      rw [if_pos (hD k hk)]
      exact hX k hk
    · dsimp only
      rw [if_pos (hD k hk)]
      exact hD k hk
  · refine Or.inr ⟨?_, ?_, ?_⟩
    · rw [if_neg h2, if_neg h2]
    · dsimp only
      split
      · exact hX k hk
      · exact h2
    · dsimp only
      split
      · exact hD k hk
      · exact h3
theorem qw_n9 {k : Nat} (h : k < 2147483648) : nI k ≠ -9 := by
  intro e
  have e2 := congrArg Int32.toInt e
  have e9 : (-9 : Int32).toInt = -9 := by decide
  rw [nI_toInt h] at e2
  omega
end Q5
