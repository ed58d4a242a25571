/-! TELLING, MIXING: values by natural numbers -/
def qs_tl (b x : Nat) : Nat := x / (b + 1) * (b + 1)
theorem qs_tlle {b x : Nat} : qs_tl b x ≤ x := Nat.div_mul_le_self x (b + 1)
theorem qs_tle {b x : Nat} (hx : x < 1000000) (hb : b ≤ 9) : nI x - (nI x - nI x / (nI b + 1) * (nI b + 1)) = nI (qs_tl b x) := by
  have := qs_tlle (b := b) (x := x)
  unfold qs_tl at this ⊢
  rw [show nI b + 1 = nI (b + 1) from qb_s, qw_div (by omega) (by omega) (by omega), qw_mul, qw_sub this, qw_sub (by omega)]
  congr 1
  omega
theorem qs_50 {b x : Nat} (hx : x < 1000000) (hb : b ≤ 9) : ma_50 (nI x) (nI b) = nI (qs_tl b x) := by
  unfold ma_50
  rw [if_neg (show ¬ nI b + 1 < 1 from by rw [qb_s]; exact qb_ltF (b := 1) (by omega) (by omega))]
  exact qs_tle hx hb
theorem qs_186 {b x : Nat} {a : Int32} {τ : qa_S} (h : τ 105 a.toNatClampNeg = nI b) (hx : x < 1000000) (hb : b ≤ 9) : ma_186_99 a (nI x) τ = nI (qs_tl b x) := by
  unfold ma_186_99
  rw [h]
  exact qs_tle hx hb
theorem qs_48 : ∀ o, o < 128 → ∀ k, k < 7 → ma_48 (nI o) (nI k) = if o.testBit k then 1 else 0 := by decide +kernel
theorem qs_185 : ∀ o, o < 128 → ∀ k, k < 7 → ma_185 (nI o) (nI k) = if o.testBit k then 1 else 0 := qs_48
theorem qs_eqi {a b : Nat} (ha : a < 1000000) (hb : b < 1000000) : (nI a = nI b) ↔ (a == b) = true := by rw [qb_eq (by omega) (by omega), beq_iff_eq]
section QS
variable {σ : qa_S} {N o b l2 l3 : Nat} {x y : Nat → Nat}
end QS
section QS2
variable {n t : Nat} {s : Nat → Nat} {T : Nat → Nat → Nat} {o b : Nat → Nat} {σ τ : qa_S} {N : Nat}
/-! mixing -/
end QS2
