/-! what the forms say of the row, of the water -/
theorem ql_g {M : q4_M} (hM : q52_M M) {a j : Nat} {lo hi : Int} (h0 : 0 < a) (h1 : a < 124) (hj : j < q51_len a) (hG : q51_G a j = (0, lo, hi)) : lo ≤ (qa_s M a j).toInt ∧ (qa_s M a j).toInt ≤ hi := by
  have h := (hM.2.2.2.2 a h0 h1).2.2 j hj
  obtain ⟨w, hw, hd⟩ := q54_gi (by unfold q50_isi; rw [hG]; rfl) h
  rw [hG] at hd
  unfold qa_s
  rw [hw]
  exact hd
theorem ql_z {M : q4_M} (hM : q52_M M) : ∀ m, m < 4 → qa_s M 96 m = 0 := by
  have l : q51_len 96 = 4 := by decide
  have g : ∀ i, i < 4 → q51_G 96 i = (0, 0, 0) := by decide
  intro m hm
  have h := ql_g hM (a := 96) (by omega) (by omega) (by rw [l]; exact hm) (g m hm)
  apply Int32.toInt_inj.mp
  rw [show (0 : Int32).toInt = 0 by decide]
  omega
