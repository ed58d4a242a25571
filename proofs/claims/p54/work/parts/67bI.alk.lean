/-! alike, blind: how many of the bits, the first of them -/
section QI
variable {n t : Nat} {x s : Nat → Nat} {T : Nat → Nat → Nat} {o b : Nat → Nat} {σ τ : qa_S} {N : Nat}
theorem qs_60p (ht : t ≤ 6) (h0 : σ 4 1 = nI t) : ma_60_3 σ = nI (2 ^ t - 1) := by
  unfold ma_60_3
  rw [h0]
  exact qs_ev t (by omega)
theorem qs_190p (ht : t ≤ 6) (h0 : τ 99 5 = nI t) : ma_190_99 τ = nI (2 ^ t - 1) := by
  unfold ma_190_99
  rw [h0]
  exact qs_ev t (by omega)
theorem qs_2t (ht : t ≤ 6) : 2 ^ t ≤ 64 := Nat.le_trans (Nat.pow_le_pow_right (by omega) ht) (by decide : 2 ^ 6 ≤ 64)
theorem qb_201 {x2 : Int32} : (ma_57 x2 = 0 ∧ ma_201 0 x2 1 = -2) ∨ (¬ ma_57 x2 = 0 ∧ ma_201 0 x2 1 = 0) := by
  unfold ma_201
  rcases qw_w x2 with ⟨w1, w2, -⟩ | ⟨-, w1, w2⟩
  · refine Or.inl ⟨w1, ?_⟩
    have w3 : ma_158 x2.toInt64 (0 : Int64) (1 : Int32).toInt64 = 0 := w2
    rw [if_pos rfl, if_pos w3]
  · refine Or.inr ⟨w1, ?_⟩
    have w3 : ¬ ma_158 x2.toInt64 (0 : Int64) (1 : Int32).toInt64 = 0 := w2
    rw [if_pos rfl, if_neg w3]
end QI
