/-! the script doesn't matter to what doesn't look at it -/
def q81_sw (N : q4_M) (x : q4_C) : q4_M := (N.1, fun k => if k = 0 then x else N.2 k)
def q81_r (x : q4_C) : q4_R → q4_R
  | .inl (pc, lv, st, M, ce, sl) => .inl (pc, lv, st, q81_sw M x, ce, sl)
  | .inr r => .inr r
def q81_ok (N : q4_M) : Prop := (N.2 0).1 = 99 ∧ 3 ≤ N.1
def q81_o : q4_R → Prop
  | .inl (_, _, _, M, _, _) => q81_ok M
  | .inr _ => True
theorem q81_1 (N : q4_M) (x : q4_C) : (q81_sw N x).1 = N.1 := rfl
theorem q81_2 (N : q4_M) (x : q4_C) {a : Nat} (h : a ≠ 0) : (q81_sw N x).2 a = N.2 a := by
  show (if a = 0 then x else N.2 a) = _
  rw [if_neg h]
theorem q81_put (N : q4_M) (x : q4_C) {a j : Nat} {v : Value} (h : a ≠ 0) : q4_put (q81_sw N x) a j v = q81_sw (q4_put N a j v) x := by
  unfold q4_put
  rw [q81_2 N x h]
  show (N.1, fun k => _) = (N.1, fun k => _)
  congr 1
  funext k
  by_cases hk : k = 0
  · subst hk
    rw [if_neg (fun e => h e.symm), if_pos rfl]
    rfl
  · by_cases hka : k = a
    · rw [if_pos hka, if_neg hk]
      show _ = (if k = a then ((N.2 a).1, (N.2 a).2.1, updV (N.2 a).2.2 j v) else N.2 k)
      rw [if_pos hka]
    · rw [if_neg hka, if_neg hk, q81_2 N x hk]
      show _ = (if k = a then ((N.2 a).1, (N.2 a).2.1, updV (N.2 a).2.2 j v) else N.2 k)
      rw [if_neg hka]
theorem q81_putok {N : q4_M} {a j : Nat} {v : Value} (h0 : q81_ok N) (h : a ≠ 0) : q81_ok (q4_put N a j v) := by
  refine ⟨?_, h0.2⟩
  show (if 0 = a then _ else N.2 0 : q4_C).1 = 99
  rw [if_neg (fun e => h e.symm)]
  exact h0.1
theorem q81_new (N : q4_M) (x y : q4_C) (h : 3 ≤ N.1) : q4_new (q81_sw N x) y = q81_sw (q4_new N y) x := by
  unfold q4_new
  show (N.1 + 1, fun k => _) = (N.1 + 1, fun k => _)
  congr 1
  funext k
  show (if k = N.1 then y else (q81_sw N x).2 k) = if k = 0 then x else if k = N.1 then y else N.2 k
  by_cases hk : k = 0
  · subst hk
    rw [if_neg (by omega), if_pos rfl]
    rfl
  · rw [if_neg (c := k = 0) hk, q81_2 N x hk]
theorem q81_newok {N : q4_M} {y : q4_C} (h0 : q81_ok N) : q81_ok (q4_new N y) := by
  have := h0.2
  refine ⟨?_, by show 3 ≤ N.1 + 1; omega⟩
  show (if 0 = N.1 then y else N.2 0 : q4_C).1 = 99
  rw [if_neg (by omega)]
  exact h0.1
theorem q81_grid (N : q4_M) (x : q4_C) (n m : Nat) (h : 3 ≤ N.1) : q4_grid (q81_sw N x) n m = q81_sw (q4_grid N n m) x := by
  unfold q4_grid
  show (N.1 + 1 + n, fun k => _) = (N.1 + 1 + n, fun k => _)
  congr 1
  funext k
  show (if k = N.1 then _ else if N.1 < k ∧ k < N.1 + 1 + n then _ else (q81_sw N x).2 k) = if k = 0 then x else if k = N.1 then _ else if N.1 < k ∧ k < N.1 + 1 + n then _ else N.2 k
  by_cases hk : k = 0
  · subst hk
    rw [if_neg (by omega), if_neg (by omega), if_pos rfl]
    rfl
  · rw [if_neg (c := k = 0) hk, q81_2 N x hk]
    rfl
theorem q81_gridok {N : q4_M} {n m : Nat} (h0 : q81_ok N) : q81_ok (q4_grid N n m) := by
  have := h0.2
  refine ⟨?_, by show 3 ≤ N.1 + 1 + n; omega⟩
  show (if 0 = N.1 then _ else if N.1 < 0 ∧ 0 < N.1 + 1 + n then _ else N.2 0 : q4_C).1 = 99
  rw [if_neg (by omega), if_neg (by omega)]
  exact h0.1
theorem q81_copy (N : q4_M) (x : q4_C) {a sp b dp n : Nat} (ha : a ≠ 0) (hb : b ≠ 0) : q4_copy (q81_sw N x) a sp b dp n = q81_sw (q4_copy N a sp b dp n) x := by
  unfold q4_copy
  rw [q81_2 N x ha, q81_2 N x hb]
  show (N.1, fun k => _) = (N.1, fun k => _)
  congr 1
  funext k
  by_cases hk : k = 0
  · subst hk
    rw [if_neg (fun e => hb e.symm), if_pos rfl]
    rfl
  · by_cases hka : k = b
    · rw [if_pos hka, if_neg hk]
      show _ = (if k = b then ((N.2 b).1, (N.2 b).2.1, va_cpy (N.2 a).2.2 (N.2 b).2.2 sp dp n) else N.2 k)
      rw [if_pos hka]
    · rw [if_neg hka, if_neg hk, q81_2 N x hk]
      show _ = (if k = b then ((N.2 b).1, (N.2 b).2.1, va_cpy (N.2 a).2.2 (N.2 b).2.2 sp dp n) else N.2 k)
      rw [if_neg hka]
theorem q81_copyok {N : q4_M} {a sp b dp n : Nat} (h0 : q81_ok N) (h : b ≠ 0) : q81_ok (q4_copy N a sp b dp n) := by
  refine ⟨?_, h0.2⟩
  show (if 0 = b then _ else N.2 0 : q4_C).1 = 99
  rw [if_neg (fun e => h e.symm)]
  exact h0.1
theorem q81_call {k y kd ce sl : Nat} {st : List Value} {N : q4_M} {r : q4_R} {x : q4_C} (h0 : q81_ok N) (h : q4_call k y kd st N ce sl = some r) : q4_call k y kd st (q81_sw N x) ce sl = some (q81_r x r) ∧ q81_o r := by
  unfold q4_call at h ⊢
  dsimp only at h ⊢
  split at h
  · next hc =>
    rw [if_pos hc]
    split at h
    · cases h
      exact ⟨rfl, trivial⟩
    · next b _ _ heq =>
      split at h
      · next hb =>
        cases h
        have hb0 : b ≠ 0 := fun e => by
          rw [e, h0.1] at hb
          omega
        rw [heq]
        refine ⟨?_, trivial⟩
        try dsimp only
        rw [q81_1, q81_2 N x hb0, if_pos hb]
        rfl
      · cases h
    · cases h
  · cases h
theorem q81_step {k pc len ce sl : Nat} {lv : List (Nat × Value)} {st : List Value} {N : q4_M} {i : Instr} {r : q4_R} {x : q4_C} (h0 : q81_ok N) (h : q4_step k pc len lv st N ce sl i = some r) : q4_step k pc len lv st (q81_sw N x) ce sl i = some (q81_r x r) ∧ q81_o r := by
  cases i
  case iaload =>
    simp only [q4_step] at h ⊢
    split at h
    · next j a r' =>
      split at h
      · next hc =>
        cases h
        have ha : a ≠ 0 := fun e => by rw [e, h0.1] at hc; omega
        refine ⟨?_, h0⟩
        rw [q81_1, q81_2 N x ha, if_pos hc]
        rfl
      · cases h
    · cases h
  case aaload =>
    simp only [q4_step] at h ⊢
    split at h
    · next j a r' =>
      split at h
      · next hc =>
        cases h
        have ha : a ≠ 0 := fun e => by rw [e, h0.1] at hc; omega
        refine ⟨?_, h0⟩
        rw [q81_1, q81_2 N x ha, if_pos hc]
        rfl
      · cases h
    · cases h
  case iastore =>
    simp only [q4_step] at h ⊢
    split at h
    · next v j a r' =>
      split at h
      · next hc =>
        cases h
        have ha : a ≠ 0 := fun e => by rw [e] at hc; exact absurd hc.1 (by decide)
        refine ⟨?_, q81_putok h0 ha⟩
        rw [q81_1, q81_2 N x ha, if_pos hc, q81_put N x ha]
        rfl
      · cases h
    · cases h
  case arraylength =>
    simp only [q4_step] at h ⊢
    split at h
    · next a r' =>
      split at h
      · next hc =>
        cases h
        have ha : a ≠ 0 := fun e => by rw [e, h0.1] at hc; omega
        refine ⟨?_, h0⟩
        rw [q81_1, q81_2 N x ha, if_pos hc]
        rfl
      · cases h
    · cases h
  case getfield q =>
    simp only [q4_step] at h ⊢
    split at h
    · next a r' =>
      split at h
      · next hc =>
        cases h
        have ha : a ≠ 0 := fun e => by rw [e, h0.1] at hc; omega
        refine ⟨?_, h0⟩
        rw [q81_1, q81_2 N x ha, if_pos hc]
        rfl
      · cases h
    · cases h
  case putfield q =>
    simp only [q4_step] at h ⊢
    split at h
    · next v a r' =>
      split at h
      · next hc =>
        cases h
        have ha : a ≠ 0 := fun e => by rw [e, h0.1] at hc; omega
        refine ⟨?_, q81_putok h0 ha⟩
        rw [q81_1, q81_2 N x ha, if_pos hc, q81_put N x ha]
        rfl
      · cases h
    · cases h
  case new c =>
    simp only [q4_step] at h ⊢
    split at h
    · next hc =>
      cases h
      refine ⟨?_, q81_newok h0⟩
      rw [if_pos hc, q81_1, q81_new N x _ h0.2]
      rfl
    · cases h
  case newarray t =>
    simp only [q4_step] at h ⊢
    split at h
    · next n r' =>
      split at h
      · next hc =>
        cases h
        refine ⟨?_, q81_newok h0⟩
        rw [if_pos hc, q81_1, q81_new N x _ h0.2]
        rfl
      · cases h
    · cases h
  case multianewarray c d =>
    simp only [q4_step] at h ⊢
    split at h
    · next m n r' =>
      split at h
      · next hc =>
        cases h
        refine ⟨?_, q81_gridok h0⟩
        rw [if_pos hc, q81_1, q81_grid N x _ _ h0.2]
        rfl
      · cases h
    · cases h
  case nop =>
    simp only [q4_step] at h ⊢
    split at h
    · next n dp b sp a r' =>
      split at h
      · next hc =>
        cases h
        have ha : a ≠ 0 := fun e => by rw [e] at hc; exact absurd hc.1 (by decide)
        have hb : b ≠ 0 := fun e => by rw [e] at hc; exact absurd hc.2.2.1 (by decide)
        refine ⟨?_, q81_copyok h0 hb⟩
        rw [q81_1, q81_2 N x ha, q81_2 N x hb, if_pos hc, q81_copy N x ha hb]
        rfl
      · cases h
    · cases h
  case invokestatic y => exact q81_call h0 h
  case invokevirtual y => exact q81_call h0 h
  case invokespecial y => exact q81_call h0 h
  case tableswitch d lo hi ts =>
    simp only [q4_step] at h ⊢
    split at h
    · next y r' =>
      split at h
      · next hc =>
        cases h
        rw [if_pos hc]
        exact ⟨rfl, h0⟩
      · next hc =>
        rw [if_neg hc]
        split at h
        · next t ht =>
          cases h
          first
            | exact ⟨rfl, h0⟩
            | (rw [ht]; exact ⟨rfl, h0⟩)
        · cases h
    · cases h
  all_goals try (cases h; done)
  all_goals simp only [q4_step] at h ⊢
  all_goals first
    | (cases h; exact ⟨rfl, h0⟩)
    | (split at h <;> first | (cases h; done) | (cases h; exact ⟨rfl, h0⟩) | (cases h; exact ⟨rfl, trivial⟩) | (cases h; rename_i hc; rw [if_pos hc]; exact ⟨rfl, h0⟩) | (cases h; rename_i hc; rw [if_neg hc]; exact ⟨rfl, h0⟩) | (split at h <;> first | (cases h; done) | (cases h; exact ⟨rfl, h0⟩) | (cases h; exact ⟨rfl, trivial⟩) | (cases h; rename_i hc; rw [if_pos hc]; exact ⟨rfl, h0⟩) | (cases h; rename_i hc; rw [if_neg hc]; exact ⟨rfl, h0⟩) | (cases h; rename_i hc; rw [if_pos hc]; exact ⟨rfl, trivial⟩)))
