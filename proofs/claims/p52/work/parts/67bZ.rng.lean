/-! what the forms say of the row, of the water -/
theorem ql_g {M : q4_M} (hM : q52_M M) {a j : Nat} {lo hi : Int} (h0 : 0 < a) (h1 : a < 124) (hj : j < q51_len a) (hG : q51_G a j = (0, lo, hi)) : lo ≤ (qa_s M a j).toInt ∧ (qa_s M a j).toInt ≤ hi := by
  have h := (hM.2.2.2.2 a h0 h1).2.2 j hj
  obtain ⟨w, hw, hd⟩ := q54_gi (by unfold q50_isi; rw [hG]; rfl) h
  rw [hG] at hd
  unfold qa_s
  rw [hw]
  exact hd
theorem ql_r {M : q4_M} (hM : q52_M M) : ∀ i, i < 12 → 0 ≤ (qa_s M 92 i).toInt ∧ (qa_s M 92 i).toInt ≤ 99 := by
  have l : q51_len 92 = 12 := by decide
  have g : ∀ i, i < 12 → q51_G 92 i = (0, 0, 99) := by decide
  exact fun i hi => ql_g hM (by omega) (by omega) (by rw [l]; exact hi) (g i hi)