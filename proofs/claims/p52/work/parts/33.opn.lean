/-! known values; comparisons; values that are not all known -/
theorem q22_fr {k pc len : Nat} {vs : List Value} {N0 : q4_M} {pc' : Nat} {lv1 : List (Nat × Value)} {st' : List Value} {N1 : q4_M} {c1 s1 : Nat} {i : Instr} (hn : q20_ar i ≠ 0) (h : q4_step k pc len [] vs N0 0 0 i = some (.inl (pc', lv1, st', N1, c1, s1))) (lv : List (Nat × Value)) (rest : List Value) (N : q4_M) (ce sl : Nat) :
    q4_step k pc len lv (vs ++ rest) N ce sl i = some (.inl (pc', lv, st' ++ rest, N, ce, sl)) := by
  cases i
  all_goals (try (exact absurd rfl hn))
  all_goals (simp only [q4_step] at h)
  all_goals (repeat' split at h)
  all_goals (first | (cases h; done) | (cases h; simp only [List.cons_append, q4_step]; done) | (cases h; simp only [List.cons_append, q4_step]; first | rfl | (simp [*]; done)))
def q22_ci (c : ClassFile.Cond) (a b : Int) : Prop := match c with | .eq => a = b | .ne => a ≠ b | .lt => a < b | .ge => b ≤ a | .gt => b < a | .le => a ≤ b
theorem q22_icmp (c : ClassFile.Cond) (x y : Int32) : q4_icmp c x y = true ↔ q22_ci c x.toInt y.toInt := by
  cases c <;> simp [q4_icmp, q22_ci, Int32.lt_iff_toInt_lt, Int32.le_iff_toInt_le, Int32.toInt_inj]
theorem q22_neg {c : ClassFile.Cond} {a b : Int} (h : ¬ q22_ci c a b) : q22_ci (q20_neg c) a b := by
  cases c <;> simp only [q22_ci, q20_neg] at h ⊢ <;> omega
theorem q22_flip {c : ClassFile.Cond} {a b : Int} : q22_ci c a b ↔ q22_ci (q20_flip c) b a := by
  cases c <;> simp only [q22_ci, q20_flip] <;> omega
theorem q22_ref {c : ClassFile.Cond} {lo hi b a : Int} (h1 : lo ≤ a) (h2 : a ≤ hi) (h : q22_ci c a b) : ∃ q ∈ q20_ref c lo hi b, q.1 ≤ a ∧ a ≤ q.2 := by
  unfold q20_ref
  cases c <;> simp only [q22_ci] at h
  · exact ⟨(max lo b, min hi b), List.mem_filter.mpr ⟨List.mem_singleton_self _, decide_eq_true (by dsimp only; omega)⟩, by dsimp only; omega, by dsimp only; omega⟩
  · rcases Int.lt_or_gt_of_ne h with h | h
    · exact ⟨(lo, min hi (b - 1)), List.mem_filter.mpr ⟨List.mem_cons_self, decide_eq_true (by dsimp only; omega)⟩, by dsimp only; omega, by dsimp only; omega⟩
    · exact ⟨(max lo (b + 1), hi), List.mem_filter.mpr ⟨List.mem_cons_of_mem _ (List.mem_singleton_self _), decide_eq_true (by dsimp only; omega)⟩, by dsimp only; omega, by dsimp only; omega⟩
  · exact ⟨(lo, min hi (b - 1)), List.mem_filter.mpr ⟨List.mem_singleton_self _, decide_eq_true (by dsimp only; omega)⟩, by dsimp only; omega, by dsimp only; omega⟩
  · exact ⟨(max lo b, hi), List.mem_filter.mpr ⟨List.mem_singleton_self _, decide_eq_true (by dsimp only; omega)⟩, by dsimp only; omega, by dsimp only; omega⟩
  · exact ⟨(max lo (b + 1), hi), List.mem_filter.mpr ⟨List.mem_singleton_self _, decide_eq_true (by dsimp only; omega)⟩, by dsimp only; omega, by dsimp only; omega⟩
  · exact ⟨(lo, min hi b), List.mem_filter.mpr ⟨List.mem_singleton_self _, decide_eq_true (by dsimp only; omega)⟩, by dsimp only; omega, by dsimp only; omega⟩
theorem q22_set {ρ : Nat → Int32} {E : q20_E} {i : Nat} {q : Int × Int} (h : q20_ok ρ E) (h1 : q.1 ≤ (ρ i).toInt) (h2 : (ρ i).toInt ≤ q.2) : q20_ok ρ (E.set i q) := by
  intro j z hz
  rw [List.getElem?_set] at hz
  split at hz
  · next e =>
    subst e
    split at hz
    · cases hz; exact ⟨h1, h2⟩
    · cases hz
  · exact h j z hz
theorem q22_on {ρ : Nat → Int32} {E : q20_E} (h : q20_ok ρ E) (c : ClassFile.Cond) (i b : Int) : ∃ q ∈ (q20_ref c (q20_sy E i).1 (q20_sy E i).2 b).map (fun q => (E.set i.toNat q, true)) ++ (q20_ref (q20_neg c) (q20_sy E i).1 (q20_sy E i).2 b).map (fun q => (E.set i.toNat q, false)), q20_ok ρ q.1 ∧ (q.2 = true ↔ q22_ci c (ρ i.toNat).toInt b) := by
  obtain ⟨h1, h2⟩ := q21_sy h i
  by_cases hc : q22_ci c (ρ i.toNat).toInt b
  · obtain ⟨q, hq, z1, z2⟩ := q22_ref h1 h2 hc
    exact ⟨_, List.mem_append.mpr (Or.inl (List.mem_map.mpr ⟨q, hq, rfl⟩)), q22_set h z1 z2, fun _ => hc, fun _ => rfl⟩
  · obtain ⟨q, hq, z1, z2⟩ := q22_ref h1 h2 (q22_neg hc)
    exact ⟨_, List.mem_append.mpr (Or.inr (List.mem_map.mpr ⟨q, hq, rfl⟩)), q22_set h z1 z2, fun e => (by cases e), fun e => absurd e hc⟩
theorem q22_both {ρ : Nat → Int32} {E : q20_E} (h : q20_ok ρ E) (t : Bool) : ∃ q ∈ [(E, true), (E, false)], q20_ok ρ q.1 ∧ q.2 = t := by
  cases t
  · exact ⟨(E, false), List.mem_cons_of_mem _ (List.mem_singleton_self _), h, rfl⟩
  · exact ⟨(E, true), List.mem_cons_self, h, rfl⟩
theorem q22_bool {a b : Bool} {P : Prop} (h : a = true ↔ P) (h' : b = true ↔ P) : a = b := by
  cases a <;> cases b <;> simp_all
theorem q22_cmp (c : ClassFile.Cond) (x y : Int64) : q4_icmp c (lg_cmp x y) 0 = true ↔ q22_ci c x.toInt y.toInt := by
  unfold lg_cmp
  by_cases h1 : x > y
  · rw [if_pos h1]
    have h2 : y.toInt < x.toInt := Int64.lt_iff_toInt_lt.mp h1
    cases c <;> simp only [q4_icmp, q22_ci] <;> constructor <;> intro h <;> first | omega | decide | (exact absurd h (by decide))
  · rw [if_neg h1]
    have h2 : ¬ y.toInt < x.toInt := fun h => h1 (Int64.lt_iff_toInt_lt.mpr h)
    by_cases h3 : x = y
    · rw [if_pos h3]
      subst h3
      cases c <;> simp only [q4_icmp, q22_ci] <;> constructor <;> intro h <;> first | omega | decide | (exact absurd h (by decide))
    · rw [if_neg h3]
      have h4 : x.toInt ≠ y.toInt := fun h => h3 (Int64.toInt_inj.mp h)
      cases c <;> simp only [q4_icmp, q22_ci] <;> constructor <;> intro h <;> first | omega | decide | (exact absurd h (by decide))
theorem q22_br {ρ : Nat → Int32} {E : q20_E} (hE : q20_ok ρ E) (c : ClassFile.Cond) {x y : q20_V} {X Y : Int32} (hx : q20_g ρ x (.int X)) (hy : q20_g ρ y (.int Y)) : ∃ q ∈ q20_br E c x y, q20_ok ρ q.1 ∧ q.2 = q4_icmp c X Y := by
  unfold q20_br
  dsimp only
  split
  · next e1 e2 =>
    obtain ⟨t, i, b⟩ := x
    have e1 : t = 4 := e1
    subst e1
    have hY := q21_c hE e2 hy
    cases hY
    have hX : Value.int X = .int (lg_cmp (ρ i.toNat).toInt64 (Int64.ofInt b)) := hx
    cases hX
    next z =>
    cases hb : (decide (Y = 0) && decide (i.toNat < E.length) && decide ((Int64.ofInt b).toInt = b)) with
    | false => exact q22_both hE _
    | true =>
      simp only [Bool.and_eq_true, decide_eq_true_eq] at hb
      obtain ⟨⟨rfl, -⟩, h3⟩ := hb
      obtain ⟨q, hq, z1, z2⟩ := q22_on hE c i b
      refine ⟨q, hq, z1, q22_bool z2 ?_⟩
      rw [q22_cmp, h3, Int32.toInt_toInt64]
  · next e1 e2 =>
    obtain ⟨t, i, b⟩ := x
    have e1 : t = 1 := e1
    subst e1
    have hY := q21_c hE e2 hy
    cases hY
    have hX : Value.int X = .int (ρ i.toNat) := hx
    cases hX
    cases hb : decide (i.toNat < E.length) with
    | false => exact q22_both hE _
    | true =>
      obtain ⟨q, hq, z1, z2⟩ := q22_on hE c i Y.toInt
      exact ⟨q, hq, z1, q22_bool z2 (q22_icmp c _ _)⟩
  · next e1 e2 n1 n2 =>
    obtain ⟨t, i, b⟩ := y
    have e2 : t = 1 := e2
    subst e2
    have hX := q21_c hE e1 hx
    cases hX
    have hY : Value.int Y = .int (ρ i.toNat) := hy
    cases hY
    cases hb : decide (i.toNat < E.length) with
    | false => exact q22_both hE _
    | true =>
      obtain ⟨q, hq, z1, z2⟩ := q22_on hE (q20_flip c) i X.toInt
      exact ⟨q, hq, z1, q22_bool z2 ((q22_icmp c _ _).trans q22_flip)⟩
  · exact q22_both hE _
