/-! what the forms say of the row, of the water -/
theorem ql_g {M : q4_M} (hM : q52_M M) {a j : Nat} {lo hi : Int} (h0 : 0 < a) (h1 : a < 124) (hj : j < q51_len a) (hG : q51_G a j = (0, lo, hi)) : lo ≤ (qa_s M a j).toInt ∧ (qa_s M a j).toInt ≤ hi := by
  have h := (hM.2.2.2.2 a h0 h1).2.2 j hj
  obtain ⟨w, hw, hd⟩ := q54_gi (by unfold q50_isi; rw [hG]; rfl) h
  rw [hG] at hd
  unfold qa_s
  rw [hw]
  exact hd