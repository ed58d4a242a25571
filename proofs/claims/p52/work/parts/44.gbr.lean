/-! the general walk's comparisons -/
theorem q56_symd {ρ : List Int} {v : q50_V} {z : Int} (h : q50_sym v = true) (hd : q52_d ρ v z) : ∃ y, ρ[v.2.1.toNat]? = some y ∧ z = y + v.2.2 := by
  obtain ⟨t, i, c⟩ := v
  unfold q50_sym at h
  simp only [Bool.or_eq_true] at h
  rcases h with h | h
  · have ht : t = 1 := Nat.eq_of_beq_eq_true h
    subst ht
    exact hd
  · have ht : t = 3 := Nat.eq_of_beq_eq_true h
    subst ht
    exact hd
theorem q56_lo {ρ : List Int} {S : q50_S} {v : q50_V} {x z : Int} (hE : q52_E ρ S) (hd : q52_d ρ v z) (h : x ≤ z) : q52_E ρ (q50_lo S v x) ∧ (q50_lo S v x).2.2 = S.2.2 := by
  unfold q50_lo
  cases hc : ((Nat.beq v.1 1 || Nat.beq v.1 3) && decide ((q50_tg 12 S.2.1 v.2.1.toNat).1 < x - v.2.2) && Nat.blt v.2.1.toNat 4096) with
  | false => exact ⟨hE, rfl⟩
  | true =>
    simp only [Bool.and_eq_true] at hc
    obtain ⟨y, hy, e⟩ := q56_symd hc.1.1 hd
    refine ⟨q54_set hE (Nat.le_of_ble_eq_true hc.2) (fun y' hy' => ?_), rfl⟩
    rw [hy] at hy'
    cases hy'
    have := hE.2.2.1 _ _ hy
    exact ⟨by dsimp only; omega, this.2⟩
theorem q56_hi {ρ : List Int} {S : q50_S} {v : q50_V} {x z : Int} (hE : q52_E ρ S) (hd : q52_d ρ v z) (h : z ≤ x) : q52_E ρ (q50_hi S v x) ∧ (q50_hi S v x).2.2 = S.2.2 := by
  unfold q50_hi
  cases hc : ((Nat.beq v.1 1 || Nat.beq v.1 3) && decide (x - v.2.2 < (q50_tg 12 S.2.1 v.2.1.toNat).2) && Nat.blt v.2.1.toNat 4096) with
  | false => exact ⟨hE, rfl⟩
  | true =>
    simp only [Bool.and_eq_true] at hc
    obtain ⟨y, hy, e⟩ := q56_symd hc.1.1 hd
    refine ⟨q54_set hE (Nat.le_of_ble_eq_true hc.2) (fun y' hy' => ?_), rfl⟩
    rw [hy] at hy'
    cases hy'
    have := hE.2.2.1 _ _ hy
    exact ⟨this.1, by dsimp only; omega⟩
/-- a state of the list in which all is so, with what is remembered as it was -/
def q56_one (ρ : List Int) (S : q50_S) (l : List q50_S) : Prop := ∃ T ∈ l, q52_E ρ T ∧ T.2.2.2 = S.2.2.2
theorem q56_le {ρ : List Int} {S : q50_S} {w : Bool} {x y : q50_V} {a b : Int × Int} {d X Y : Int} (hE : q52_E ρ S) (hx : q52_d ρ x X) (hy : q52_d ρ y Y) (ha : a.1 ≤ X ∧ X ≤ a.2) (hb : b.1 ≤ Y ∧ Y ≤ b.2) (h : X + d ≤ Y) : q56_one ρ S (q50_le w S x y a b d) := by
  unfold q50_le
  rw [decide_eq_false (show ¬ b.2 < a.1 + d by omega), cond_false]
  dsimp only
  obtain ⟨e1, e2⟩ := q56_hi (x := b.2 - d) hE hx (by omega)
  obtain ⟨e3, e4⟩ := q56_lo (x := a.1 + d) e1 hy (by omega)
  refine ⟨_, List.mem_singleton_self _, ?_⟩
  cases hc : (w && q50_sym x && q50_sym y) with
  | false => exact ⟨e3, by rw [cond_false, e4, e2]⟩
  | true =>
    simp only [Bool.and_eq_true] at hc
    obtain ⟨u, hu, eu⟩ := q56_symd hc.1.2 hx
    obtain ⟨v, hv, ev⟩ := q56_symd hc.2 hy
    rw [cond_true]
    refine ⟨⟨e3.1, e3.2.1, e3.2.2.1, fun f hf => ?_⟩, by show (q50_lo (q50_hi S x (b.2 - d)) y (a.1 + d)).2.2.2 = _; rw [e4, e2]⟩
    rcases List.mem_cons.mp hf with rfl | hf
    · exact ⟨u, v, hu, hv, by dsimp only; omega⟩
    · exact e3.2.2.2 f hf
theorem q56_ne {ρ : List Int} {S : q50_S} {x : q50_V} {a : Int × Int} {X z : Int} (hE : q52_E ρ S) (hx : q52_d ρ x X) (ha : a.1 ≤ X ∧ X ≤ a.2) (h : X ≠ z) : q56_one ρ S (q50_ne S x a z) := by
  unfold q50_ne
  cases h1 : (decide (a.1 = z) && decide (a.2 = z)) with
  | true =>
    simp only [Bool.and_eq_true, decide_eq_true_eq] at h1
    omega
  | false =>
    rw [cond_false]
    cases h2 : decide (a.1 = z) with
    | true =>
      have h2 := of_decide_eq_true h2
      obtain ⟨e1, e2⟩ := q56_lo (x := z + 1) hE hx (by omega)
      exact ⟨_, List.mem_singleton_self _, e1, by rw [e2]⟩
    | false =>
      rw [cond_false]
      cases h3 : decide (a.2 = z) with
      | true =>
        have h3 := of_decide_eq_true h3
        obtain ⟨e1, e2⟩ := q56_hi (x := z - 1) hE hx (by omega)
        exact ⟨_, List.mem_singleton_self _, e1, by rw [e2]⟩
      | false =>
        rw [cond_false]
        cases h4 : (decide (z = 0) && decide (a.1 < 0) && decide (0 < a.2)) with
        | false => exact ⟨S, List.mem_singleton_self _, hE, rfl⟩
        | true =>
          simp only [Bool.and_eq_true, decide_eq_true_eq] at h4
          rw [cond_true]
          rcases Int.lt_or_le X 0 with hX | hX
          · obtain ⟨e1, e2⟩ := q56_hi (x := -1) hE hx (by omega)
            exact ⟨_, List.mem_cons_self, e1, by rw [e2]⟩
          · obtain ⟨e1, e2⟩ := q56_lo (x := 1) hE hx (by omega)
            exact ⟨_, List.mem_cons_of_mem _ (List.mem_singleton_self _), e1, by rw [e2]⟩
theorem q56_br {ρ : List Int} {S : q50_S} {w : Bool} {c : ClassFile.Cond} {x y : q50_V} {a b : Int × Int} {X Y : Int} (hE : q52_E ρ S) (hx : q52_d ρ x X) (hy : q52_d ρ y Y) (ha : a.1 ≤ X ∧ X ≤ a.2) (hb : b.1 ≤ Y ∧ Y ≤ b.2) (h : q22_ci c X Y) : q56_one ρ S (q50_br w S c x y a b) := by
  have self : q56_one ρ S [S] := ⟨S, List.mem_singleton_self _, hE, rfl⟩
  unfold q50_br
  cases hs : (q50_sym x && q50_sym y && decide (x.2.1 = y.2.1)) with
  | true =>
    rw [cond_true]
    simp only [Bool.and_eq_true, decide_eq_true_eq] at hs
    obtain ⟨u, hu, eu⟩ := q56_symd hs.1.1 hx
    obtain ⟨v, hv, ev⟩ := q56_symd hs.1.2 hy
    rw [hs.2] at hu
    rw [hu] at hv
    cases hv
    cases c <;> simp only [q22_ci] at h <;> dsimp only
    · rw [decide_eq_true (by omega)]; exact self
    · rw [decide_eq_false (by omega)]; exact self
    · rw [decide_eq_true (by omega)]; exact self
    · rw [decide_eq_true (by omega)]; exact self
    · rw [decide_eq_true (by omega)]; exact self
    · rw [decide_eq_true (by omega)]; exact self
  | false =>
    rw [cond_false]
    cases c <;> simp only [q22_ci] at h <;> dsimp only
    · -- eq
      subst h
      rw [decide_eq_false (by omega), cond_false]
      obtain ⟨e1, g1⟩ := q56_lo (x := max a.1 b.1) hE hx (by omega)
      obtain ⟨e2, g2⟩ := q56_hi (x := min a.2 b.2) e1 hx (by omega)
      obtain ⟨e3, g3⟩ := q56_lo (x := max a.1 b.1) e2 hy (by omega)
      obtain ⟨e4, g4⟩ := q56_hi (x := min a.2 b.2) e3 hy (by omega)
      exact ⟨_, List.mem_singleton_self _, e4, by rw [g4, g3, g2, g1]⟩
    · -- ne
      cases h1 : decide (b.1 = b.2) with
      | true =>
        have h1 := of_decide_eq_true h1
        exact q56_ne hE hx ha (by omega)
      | false =>
        rw [cond_false]
        cases h2 : decide (a.1 = a.2) with
        | true =>
          have h2 := of_decide_eq_true h2
          exact q56_ne hE hy hb (by omega)
        | false => exact self
    · exact q56_le hE hx hy ha hb (by omega)
    · exact q56_le hE hy hx hb ha (by omega)
    · exact q56_le hE hy hx hb ha (by omega)
    · exact q56_le hE hx hy ha hb (by omega)
