/-! CASKS AGAINST EACH OTHER: range, nearest, twin, exact, rank, loner -/
section Q5
variable {n t : Nat} {s : Nat → Nat} {T : Nat → Nat → Nat} {o b : Nat → Nat} {σ τ : qa_S} {N : Nat}
theorem qs_113 {a b : Nat} (ha : a < 128) (hb : b < 128) : ma_113 (nI a - nI b) = nI ((a - b) + (b - a)) := by
  unfold ma_113
  by_cases h : b ≤ a
  · rw [qw_sub h, if_neg (qw_n0 (by omega)), show a - b + (b - a) = a - b by omega]
  · have e : nI a - nI b = -(nI (b - a)) := by rw [← qw_sub (by omega)]; exact Int32.neg_sub.symm
    have d : ∀ k, k < 128 → k ≠ 0 → -(nI k) < 0 := by decide
    rw [e, if_pos (d (b - a) (by omega) (by omega)), Int32.neg_neg, show a - b + (b - a) = b - a by omega]
/-- how far -/
def qs_di (x y : Nat → Nat) : Nat := qs_sm (fun m => (x m - y m) + (y m - x m)) 4
theorem qs_dil {x y : Nat → Nat} (hx : ∀ m, m < 4 → x m ≤ 99) (hy : ∀ m, m < 4 → y m ≤ 99) : qs_di x y ≤ 792 := qs_sml (h := 198) (fun k hk => by have := hx k hk; have := hy k hk; omega)
/-! the least, the most -/
end Q5
