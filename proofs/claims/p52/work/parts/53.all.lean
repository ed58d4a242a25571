/-! all contracts are kept -/
theorem q77_rg {a n : Nat} (h : (List.range n).all (fun j => q70_ok (j + a)) = true) {i : Nat} (h1 : a ≤ i) (h2 : i < a + n) : q70_ok i = true := by
  have := List.all_eq_true.mp h (i - a) (List.mem_range.mpr (by omega))
  rw [show i - a + a = i by omega] at this
  exact this
theorem q77_ok : ∀ i, i < q70_n → q70_ok i = true := by
  intro i hi
  have hi : i < 282 := hi
  rcases Nat.lt_or_ge i 28 with g | g
  · exact q77_rg q70_t0 (by omega) (by omega)
  rcases Nat.lt_or_ge i 49 with g | g
  · exact q77_rg q70_t1 (by omega) (by omega)
  rcases Nat.lt_or_ge i 87 with g | g
  · exact q77_rg q70_t2 (by omega) (by omega)
  rcases Nat.lt_or_ge i 92 with g | g
  · exact q77_rg q70_t3 (by omega) (by omega)
  rcases Nat.lt_or_ge i 96 with g | g
  · exact q77_rg q70_t4 (by omega) (by omega)
  rcases Nat.lt_or_ge i 100 with g | g
  · exact q77_rg q70_t5 (by omega) (by omega)
  rcases Nat.lt_or_ge i 104 with g | g
  · exact q77_rg q70_t6 (by omega) (by omega)
  rcases Nat.lt_or_ge i 108 with g | g
  · exact q77_rg q70_t7 (by omega) (by omega)
  rcases Nat.lt_or_ge i 112 with g | g
  · exact q77_rg q70_t8 (by omega) (by omega)
  rcases Nat.lt_or_ge i 114 with g | g
  · exact q77_rg q70_t9 (by omega) (by omega)
  rcases Nat.lt_or_ge i 116 with g | g
  · exact q77_rg q70_t10 (by omega) (by omega)
  rcases Nat.lt_or_ge i 118 with g | g
  · exact q77_rg q70_t11 (by omega) (by omega)
  rcases Nat.lt_or_ge i 122 with g | g
  · exact q77_rg q70_t12 (by omega) (by omega)
  rcases Nat.lt_or_ge i 123 with g | g
  · exact q77_rg q70_t13 (by omega) (by omega)
  rcases Nat.lt_or_ge i 127 with g | g
  · exact q77_rg q70_t14 (by omega) (by omega)
  rcases Nat.lt_or_ge i 128 with g | g
  · exact q77_rg q70_t15 (by omega) (by omega)
  rcases Nat.lt_or_ge i 170 with g | g
  · exact q77_rg q70_t16 (by omega) (by omega)
  rcases Nat.lt_or_ge i 171 with g | g
  · exact q77_rg q70_t17 (by omega) (by omega)
  rcases Nat.lt_or_ge i 184 with g | g
  · exact q77_rg q70_t18 (by omega) (by omega)
  rcases Nat.lt_or_ge i 185 with g | g
  · exact q77_rg q70_t19 (by omega) (by omega)
  rcases Nat.lt_or_ge i 186 with g | g
  · exact q77_rg q70_t20 (by omega) (by omega)
  rcases Nat.lt_or_ge i 187 with g | g
  · exact q77_rg q70_t21 (by omega) (by omega)
  rcases Nat.lt_or_ge i 188 with g | g
  · exact q77_rg q70_t22 (by omega) (by omega)
  rcases Nat.lt_or_ge i 202 with g | g
  · exact q77_rg q70_t23 (by omega) (by omega)
  rcases Nat.lt_or_ge i 224 with g | g
  · exact q77_rg q70_t24 (by omega) (by omega)
  rcases Nat.lt_or_ge i 257 with g | g
  · exact q77_rg q70_t25 (by omega) (by omega)
  exact q77_rg q70_t26 (by omega) (by omega)
theorem q77_V {y : Nat} {c : Nat × q50_C} (h : c ∈ q70_G y) : c.2.1 = y ∧ q60_V c.2 := by
  obtain ⟨h1, h2, h3⟩ := q77_in h
  rw [h2]
  exact ⟨h3, q77_all q77_ok _ _ (Nat.lt_succ_self _) h1⟩
