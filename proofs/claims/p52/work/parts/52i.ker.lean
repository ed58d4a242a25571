/-! the largest contract, piece by piece -/
theorem q70_sp {α : Type} {l : List α} {p : α → Bool} (n : Nat) (h1 : (l.take n).all p = true) (h2 : (l.drop n).all p = true) : l.all p = true := by
  rw [← List.take_append_drop n l, List.all_append, h1, h2]
  rfl
noncomputable def q70_sg (i : Nat) (q : Nat × q50_K × q50_P) : Bool := bif (q70_hp i).any (Nat.beq q.1) then true else q50_seg q70_G i 0 0 (q70_at i) 30000 q.1 q.2.2 (some (q.2.2.2.2, q.2.1))
theorem q70_i0 : (q61_rb (q70_at 187) && ((q70_at 187).2.2.2.1.all (fun q => q50_gh 0 (q70_at 187).2.1.1.1 q.2.2.2.1) && (q70_at 187).2.2.2.2.all (fun P => q50_gh 0 (q70_at 187).2.1.1.1 P.2.1) && q50_seg q70_G 187 0 0 (q70_at 187) 30000 0 (q70_at 187).2.1 none)) = true := by decide +kernel
theorem q70_i1 : ((q70_at 187).2.2.2.1.take 24).all (q70_sg 187) = true := by decide +kernel
theorem q70_i2 : (((q70_at 187).2.2.2.1.drop 24).take 24).all (q70_sg 187) = true := by decide +kernel
theorem q70_i3 : ((((q70_at 187).2.2.2.1.drop 24).drop 24).take 24).all (q70_sg 187) = true := by decide +kernel
theorem q70_i4 : ((((q70_at 187).2.2.2.1.drop 24).drop 24).drop 24).all (q70_sg 187) = true := by decide +kernel
theorem q70_i5 : q70_ok 187 = true := by
  have h := q70_sp 24 q70_i1 (q70_sp 24 q70_i2 (q70_sp 24 q70_i3 q70_i4))
  have h0 := q70_i0
  unfold q70_ok q50_chkx
  rw [show q70_hand 187 = false from rfl, cond_false]
  simp only [Bool.and_eq_true] at h0 ⊢
  exact ⟨h0.1, ⟨h0.2, h⟩⟩
theorem q70_t22 : (List.range 1).all (fun j => q70_ok (j + 187)) = true := by
  rw [List.all_eq_true]
  intro j hj
  have hj := List.mem_range.mp hj
  have e : j = 0 := by omega
  subst e
  exact q70_i5
