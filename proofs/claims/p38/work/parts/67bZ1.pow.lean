/-! powers, factorials, long comparisons -/
/-- the powers of 3, the factorials -/
theorem ql_p {M : q4_M} (hM : q52_M M) : (∀ k, k ≤ 7 → qa_s M 1 k = nI (3 ^ k)) ∧ qa_s M 2 0 = 1 ∧ qa_s M 2 1 = 1 ∧ qa_s M 2 2 = 2 ∧ qa_s M 2 3 = 6 ∧ qa_s M 2 4 = 24 ∧ qa_s M 2 5 = 120 ∧ qa_s M 2 6 = 720 ∧ qa_s M 2 7 = 5040 := by
  have l1 : q51_len 1 = 8 := by decide
  have l2 : q51_len 2 = 8 := by decide
  have g1 : ∀ k, k < 8 → q51_G 1 k = (0, ((3 ^ k : Nat) : Int), ((3 ^ k : Nat) : Int)) := by decide
  have e : ∀ {x : Int32} {v : Nat}, v < 2147483648 → ((v : Nat) : Int) ≤ x.toInt ∧ x.toInt ≤ ((v : Nat) : Int) → x = nI v := fun hv h => Int32.toInt_inj.mp (by rw [nI_toInt hv]; omega)
  have f : ∀ (j v : Nat), v < 2147483648 → j < 8 → q51_G 2 j = (0, ((v : Nat) : Int), ((v : Nat) : Int)) → qa_s M 2 j = nI v := fun j v hv hj hG => e hv (ql_g hM (a := 2) (by omega) (by omega) (by rw [l2]; exact hj) hG)
  refine ⟨fun k hk => e (Nat.lt_of_le_of_lt (qk_3n hk) (by omega)) (ql_g hM (a := 1) (by omega) (by omega) (by rw [l1]; omega) (g1 k (by omega))), f 0 1 (by omega) (by omega) rfl, f 1 1 (by omega) (by omega) rfl, f 2 2 (by omega) (by omega) rfl, f 3 6 (by omega) (by omega) rfl, f 4 24 (by omega) (by omega) rfl, f 5 120 (by omega) (by omega) rfl, f 6 720 (by omega) (by omega) rfl, f 7 5040 (by omega) (by omega) rfl⟩
theorem ql_m {M : q4_M} (hM : q52_M M) (hI : qb_I False True (qa_s M)) : qk_M (qa_s M) := by
  obtain ⟨n, n7, n1, -, -⟩ := qb_An hI.1
  exact ⟨⟨⟨n, n7, n1⟩, (ql_p hM).1⟩, hI.2.2.2.2.2.2.2 trivial⟩
