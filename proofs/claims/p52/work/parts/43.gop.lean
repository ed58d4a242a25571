/-! the general walk's arithmetic -/
theorem q55_rg {ρ : List Int} {lo hi : Int} {w : Int32} (h : -2147483648 ≤ lo → hi ≤ 2147483647 → lo ≤ w.toInt ∧ w.toInt ≤ hi) : q52_g ρ (q50_rg lo hi) (.int w) := by
  unfold q50_rg
  cases hc : (decide (-2147483648 ≤ lo) && decide (hi ≤ 2147483647)) with
  | false => exact q54_any ρ w
  | true =>
    simp only [Bool.and_eq_true, decide_eq_true_eq] at hc
    exact Or.inl ⟨rfl, w, rfl, h hc.1 hc.2⟩
theorem q55_lg {ρ : List Int} {lo hi : Int} {w : Int64} (h : -9223372036854775808 ≤ lo → hi ≤ 9223372036854775807 → lo ≤ w.toInt ∧ w.toInt ≤ hi) : q52_g ρ (q50_lg lo hi) (.long w) := by
  unfold q50_lg
  cases hc : (decide (-9223372036854775808 ≤ lo) && decide (hi ≤ 9223372036854775807)) with
  | false => exact q54_lany ρ w
  | true =>
    simp only [Bool.and_eq_true, decide_eq_true_eq] at hc
    exact Or.inr (Or.inl ⟨rfl, w, rfl, h hc.1 hc.2⟩)
theorem q55_iv0 {ρ : List Int} {a b : Int} {w : Int32} (h1 : a ≤ w.toInt) (h2 : w.toInt ≤ b) : q52_g ρ (0, a, b) (.int w) := Or.inl ⟨rfl, w, rfl, h1, h2⟩
theorem q55_add {ρ : List Int} {S : q50_S} {x y : q50_V} {a b : Int × Int} {X Y : Int32} (hx : q52_d ρ x X.toInt) (hy : q52_d ρ y Y.toInt) (ha : a.1 ≤ X.toInt ∧ X.toInt ≤ a.2) (hb : b.1 ≤ Y.toInt ∧ Y.toInt ≤ b.2) : q52_g ρ (q50_add S x y a b) (.int (X + Y)) := by
  unfold q50_add
  cases hc : (decide (-2147483648 ≤ a.1 + b.1) && decide (a.2 + b.2 ≤ 2147483647)) with
  | false => exact q54_any ρ _
  | true =>
    rw [cond_true]
    simp only [Bool.and_eq_true, decide_eq_true_eq] at hc
    have e : (X + Y).toInt = X.toInt + Y.toInt := by rw [Int32.toInt_add, q53_b32 (by omega) (by omega)]
    cases h1 : (Nat.beq x.1 1 && decide (b.1 = b.2)) with
    | true =>
      rw [cond_true]
      simp only [Bool.and_eq_true, decide_eq_true_eq] at h1
      obtain ⟨t, i, c⟩ := x
      have ht : t = 1 := Nat.eq_of_beq_eq_true h1.1
      subst ht
      obtain ⟨u, hu, hX⟩ := hx
      exact Or.inl ⟨rfl, _, rfl, u, hu, by dsimp only; omega⟩
    | false =>
      rw [cond_false]
      cases h2 : (Nat.beq y.1 1 && decide (a.1 = a.2)) with
      | true =>
        rw [cond_true]
        simp only [Bool.and_eq_true, decide_eq_true_eq] at h2
        obtain ⟨t, i, c⟩ := y
        have ht : t = 1 := Nat.eq_of_beq_eq_true h2.1
        subst ht
        obtain ⟨u, hu, hY⟩ := hy
        exact Or.inl ⟨rfl, _, rfl, u, hu, by dsimp only; omega⟩
      | false => exact q55_iv0 (by omega) (by omega)
theorem q55_sub {ρ : List Int} {S : q50_S} {x y : q50_V} {a b : Int × Int} {X Y : Int32} (hx : q52_d ρ x X.toInt) (ha : a.1 ≤ X.toInt ∧ X.toInt ≤ a.2) (hb : b.1 ≤ Y.toInt ∧ Y.toInt ≤ b.2) : q52_g ρ (q50_sub S x y a b) (.int (X - Y)) := by
  unfold q50_sub
  cases hc : (decide (-2147483648 ≤ a.1 - b.2) && decide (a.2 - b.1 ≤ 2147483647)) with
  | false => exact q54_any ρ _
  | true =>
    rw [cond_true]
    simp only [Bool.and_eq_true, decide_eq_true_eq] at hc
    have e : (X - Y).toInt = X.toInt - Y.toInt := by rw [Int32.toInt_sub, q53_b32 (by omega) (by omega)]
    cases h1 : (Nat.beq x.1 1 && decide (b.1 = b.2)) with
    | true =>
      rw [cond_true]
      simp only [Bool.and_eq_true, decide_eq_true_eq] at h1
      obtain ⟨t, i, c⟩ := x
      have ht : t = 1 := Nat.eq_of_beq_eq_true h1.1
      subst ht
      obtain ⟨u, hu, hX⟩ := hx
      exact Or.inl ⟨rfl, _, rfl, u, hu, by dsimp only; omega⟩
    | false => exact q55_iv0 (by omega) (by omega)
theorem q55_nz32 {Y : Int32} (h : Y.toInt ≠ 0) : ¬ Y = 0 := fun e => h (by rw [e]; rfl)
theorem q55_nz64 {Y : Int64} (h : Y.toInt ≠ 0) : ¬ Y = 0 := fun e => h (by rw [e]; rfl)
theorem q55_o2 {ρ : List Int} {S : q50_S} {i : Instr} {x y v : q50_V} {a b : Int × Int} {X Y : Int32} (h : q50_o2 S i x y a b = some v) (hx : q52_d ρ x X.toInt) (hy : q52_d ρ y Y.toInt) (ha : a.1 ≤ X.toInt ∧ X.toInt ≤ a.2) (hb : b.1 ≤ Y.toInt ∧ Y.toInt ≤ b.2) (k pc len : Nat) (lv : List (Nat × Value)) (r : List Value) (N : q4_M) (ce sl : Nat) :
    ∃ z : Int32, q4_step k pc len lv (.int Y :: .int X :: r) N ce sl i = some (.inl (pc + len, lv, .int z :: r, N, ce, sl)) ∧ q52_g ρ v (.int z) := by
  have rX := q53_r32 X
  have rY := q53_r32 Y
  unfold q50_o2 at h
  split at h
  · cases h; exact ⟨_, rfl, q55_add hx hy ha hb⟩
  · cases h; exact ⟨_, rfl, q55_sub hx ha hb⟩
  · cases h
    refine ⟨_, rfl, ?_⟩
    cases hc : (decide (0 ≤ a.1) && decide (0 ≤ b.1)) with
    | false => exact q54_any ρ _
    | true =>
      simp only [Bool.and_eq_true, decide_eq_true_eq] at hc
      apply q55_rg
      intro h1 h2
      have h3 := q53_mul hc.1 ha.1 ha.2 hc.2 hb.1 hb.2
      have h4 : 0 ≤ a.1 * b.1 := Int.mul_nonneg hc.1 hc.2
      rw [Int32.toInt_mul, q53_b32 (by omega) (by omega)]
      exact h3
  · -- idiv
    cases h0 : decide (0 < b.1) with
    | true =>
      rw [h0, cond_true] at h
      cases h
      have h0 := of_decide_eq_true h0
      refine ⟨X / Y, by simp only [q4_step, if_neg (q55_nz32 (Y := Y) (by omega))], ?_⟩
      have hd := q53_tdiv (x := X.toInt) (y := Y.toInt) (by omega)
      have he := q53_idiv (X := X) (Y := Y) (by omega)
      cases h1 : decide (0 ≤ a.1) with
      | true =>
        have h1 := of_decide_eq_true h1
        have hd := hd.1 (by omega)
        refine q55_iv0 (by omega) ?_
        cases h2 : decide (b.1 = b.2) with
        | false => rw [cond_false]; omega
        | true =>
          rw [cond_true]
          have h2 := of_decide_eq_true h2
          have hYb : Y.toInt = b.1 := by omega
          rw [he, hd.1, hYb]
          exact Int.ediv_le_ediv h0 ha.2
      | false =>
        rw [cond_false]
        rcases Int.lt_or_le X.toInt 0 with hX | hX
        · have := hd.2 hX
          exact q55_iv0 (by omega) (by omega)
        · have := hd.1 hX
          exact q55_iv0 (by omega) (by omega)
    | false =>
      rw [h0, cond_false] at h
      cases h1 : decide (b.2 < 0) with
      | false => rw [h1] at h; cases h
      | true =>
        rw [h1] at h
        cases h
        have h1 := of_decide_eq_true h1
        exact ⟨X / Y, by simp only [q4_step, if_neg (q55_nz32 (Y := Y) (by omega))], q54_any ρ _⟩
  · -- irem
    cases h0 : decide (0 < b.1) with
    | true =>
      rw [h0, cond_true] at h
      cases h
      have h0 := of_decide_eq_true h0
      refine ⟨X - X / Y * Y, by simp only [q4_step, if_neg (q55_nz32 (Y := Y) (by omega))], ?_⟩
      have he := q53_irem X Y (by omega)
      have t1 := Int.tmod_lt_of_pos X.toInt (b := Y.toInt) (by omega)
      have t2 := Int.lt_tmod_of_pos X.toInt (b := Y.toInt) (by omega)
      cases h1 : decide (0 ≤ a.1) with
      | true =>
        have h1 := of_decide_eq_true h1
        have t3 := Int.tmod_nonneg (a := X.toInt) Y.toInt (by omega)
        have t4 : X.toInt.tmod Y.toInt ≤ X.toInt := by
          rw [Int.tmod_eq_emod_of_nonneg (by omega)]
          rcases Int.lt_or_le X.toInt Y.toInt with hl | hl
          · rw [Int.emod_eq_of_lt (by omega) hl]; exact Int.le_refl _
          · have := Int.emod_lt_of_pos X.toInt (b := Y.toInt) (by omega)
            omega
        rw [cond_true]
        exact q55_iv0 (by omega) (by omega)
      | false => exact q55_iv0 (by omega) (by omega)
    | false =>
      rw [h0, cond_false] at h
      cases h1 : decide (b.2 < 0) with
      | false => rw [h1] at h; cases h
      | true =>
        rw [h1] at h
        cases h
        have h1 := of_decide_eq_true h1
        exact ⟨X - X / Y * Y, by simp only [q4_step, if_neg (q55_nz32 (Y := Y) (by omega))], q54_any ρ _⟩
  · -- iand
    cases h
    refine ⟨_, rfl, ?_⟩
    cases h1 : decide (0 ≤ a.1) with
    | true =>
      have h1 := of_decide_eq_true h1
      have t := q53_and (x := X) (y := Y) (by omega)
      rw [cond_true]
      cases h2 : decide (0 ≤ b.1) with
      | true =>
        have h2 := of_decide_eq_true h2
        have u := q53_andr (x := X) (y := Y) (by omega)
        rw [cond_true]
        exact q55_iv0 (by omega) (by omega)
      | false => exact q55_iv0 (by omega) (by rw [cond_false]; omega)
    | false =>
      rw [cond_false]
      cases h2 : decide (0 ≤ b.1) with
      | true =>
        have h2 := of_decide_eq_true h2
        have u := q53_andr (x := X) (y := Y) (by omega)
        exact q55_iv0 (by omega) (by omega)
      | false => exact q54_any ρ _
  · -- ior
    cases h
    refine ⟨_, rfl, ?_⟩
    cases hc : (decide (0 ≤ a.1) && decide (0 ≤ b.1)) with
    | false => exact q54_any ρ _
    | true =>
      simp only [Bool.and_eq_true, decide_eq_true_eq] at hc
      apply q55_rg
      intro _ h2
      exact (q53_or (by omega) (by omega) ha.2 hb.2 h2).1
  · -- ixor
    cases h
    refine ⟨_, rfl, ?_⟩
    cases hc : (decide (0 ≤ a.1) && decide (0 ≤ b.1)) with
    | false => exact q54_any ρ _
    | true =>
      simp only [Bool.and_eq_true, decide_eq_true_eq] at hc
      apply q55_rg
      intro _ h2
      exact (q53_or (by omega) (by omega) ha.2 hb.2 h2).2
  · -- ishl
    cases h
    refine ⟨_, rfl, ?_⟩
    cases hc : (decide (a.1 = 1) && decide (a.2 = 1) && decide (0 ≤ b.1) && decide (b.2 ≤ 30)) with
    | false => exact q54_any ρ _
    | true =>
      simp only [Bool.and_eq_true, decide_eq_true_eq] at hc
      obtain ⟨⟨⟨c1, c2⟩, c3⟩, c4⟩ := hc
      have eX : X = 1 := Int32.toInt_inj.mp (by have : (1 : Int32).toInt = 1 := by decide
                                                omega)
      have eY := q53_nI (x := Y) (by omega)
      have hs := q53_shl Y.toInt.toNat (by omega)
      rw [← eY, ← eX] at hs
      have p1 := Nat.pow_le_pow_right (n := 2) (by decide) (show b.1.toNat ≤ Y.toInt.toNat by omega)
      have p2 := Nat.pow_le_pow_right (n := 2) (by decide) (show Y.toInt.toNat ≤ b.2.toNat by omega)
      rw [cond_true]
      refine q55_iv0 ?_ ?_
      · rw [hs]; exact Int.ofNat_le.mpr p1
      · rw [hs]; exact Int.ofNat_le.mpr p2
  · -- ishr
    cases h
    have t := q53_sar X (Y &&& 31)
    exact ⟨_, rfl, q55_iv0 (by omega) (by omega)⟩
  · -- iushr
    cases h
    refine ⟨_, rfl, ?_⟩
    cases hc : (decide (b.1 = b.2) && decide (0 < b.1) && decide (b.1 < 32)) with
    | false => exact q54_any ρ _
    | true =>
      simp only [Bool.and_eq_true, decide_eq_true_eq] at hc
      obtain ⟨⟨c1, c2⟩, c3⟩ := hc
      have hYb : Y.toInt = b.1 := by omega
      have eY := q53_nI (x := Y) (by omega)
      rw [hYb] at eY
      have t := q53_ushr X (k := b.1.toNat) (by omega) (by omega) ha.2
      rw [← eY] at t
      rw [cond_true]
      refine q55_iv0 t.1 ?_
      cases h1 : decide (0 ≤ a.1) with
      | true =>
        have h1 := of_decide_eq_true h1
        exact t.2.2 (by omega)
      | false => exact t.2.1
  · cases h
theorem q55_l2 {ρ : List Int} {i : Instr} {v : q50_V} {a b : Int × Int} {X Y : Int64} (h : q50_l2 i a b = some v) (ha : a.1 ≤ X.toInt ∧ X.toInt ≤ a.2) (hb : b.1 ≤ Y.toInt ∧ Y.toInt ≤ b.2) (k pc len : Nat) (lv : List (Nat × Value)) (r : List Value) (N : q4_M) (ce sl : Nat) :
    ∃ z : Int64, q4_step k pc len lv (.long Y :: .long X :: r) N ce sl i = some (.inl (pc + len, lv, .long z :: r, N, ce, sl)) ∧ q52_g ρ v (.long z) := by
  have rX := q53_r64 X
  have rY := q53_r64 Y
  unfold q50_l2 at h
  split at h
  · cases h
    exact ⟨_, rfl, q55_lg (fun h1 h2 => by rw [Int64.toInt_add, q53_b64 (by omega) (by omega)]; omega)⟩
  · cases h
    exact ⟨_, rfl, q55_lg (fun h1 h2 => by rw [Int64.toInt_sub, q53_b64 (by omega) (by omega)]; omega)⟩
  · cases h
    refine ⟨_, rfl, ?_⟩
    cases hc : (decide (0 ≤ a.1) && decide (0 ≤ b.1)) with
    | false => exact q54_lany ρ _
    | true =>
      simp only [Bool.and_eq_true, decide_eq_true_eq] at hc
      apply q55_lg
      intro h1 h2
      have h3 := q53_mul hc.1 ha.1 ha.2 hc.2 hb.1 hb.2
      have h4 : 0 ≤ a.1 * b.1 := Int.mul_nonneg hc.1 hc.2
      rw [Int64.toInt_mul, q53_b64 (by omega) (by omega)]
      exact h3
  · cases hc : (decide (0 < b.1) || decide (b.2 < 0)) with
    | false => rw [hc] at h; cases h
    | true =>
      rw [hc] at h
      cases h
      simp only [Bool.or_eq_true, decide_eq_true_eq] at hc
      exact ⟨X / Y, by simp only [q4_step, if_neg (q55_nz64 (Y := Y) (by omega))], q54_lany ρ _⟩
  · cases hc : (decide (0 < b.1) || decide (b.2 < 0)) with
    | false => rw [hc] at h; cases h
    | true =>
      rw [hc] at h
      cases h
      simp only [Bool.or_eq_true, decide_eq_true_eq] at hc
      exact ⟨X - X / Y * Y, by simp only [q4_step, if_neg (q55_nz64 (Y := Y) (by omega))], q54_lany ρ _⟩
  · cases h
theorem q55_o1 {ρ : List Int} {S : q50_S} {i : Instr} {x v : q50_V} {a : Int × Int} {X : Value} (hE : q52_E ρ S) (h : q50_o1 S i x a = some v) (hi : q50_iv S x = some a) (hg : q52_g ρ x X) (k pc len : Nat) (lv : List (Nat × Value)) (r : List Value) (N : q4_M) (ce sl : Nat) :
    ∃ z : Value, q4_step k pc len lv (X :: r) N ce sl i = some (.inl (pc + len, lv, z :: r, N, ce, sl)) ∧ q52_g ρ v z := by
  unfold q50_o1 at h
  split at h
  · cases hc : q50_isi x with
    | false => rw [hc] at h; cases h
    | true =>
      rw [hc] at h
      cases h
      obtain ⟨w, rfl, hw⟩ := q54_gi hc hg
      have ha := q54_iv hE hi hw
      exact ⟨_, rfl, q55_rg (fun h1 h2 => by rw [Int32.toInt_neg, q53_b32 (by omega) (by omega)]; omega)⟩
  · cases hc : q50_isl x with
    | false => rw [hc] at h; cases h
    | true =>
      rw [hc] at h
      cases h
      obtain ⟨w, rfl, hw⟩ := q54_gl hc hg
      have ha := q54_iv hE hi hw
      exact ⟨_, rfl, q55_lg (fun h1 h2 => by rw [Int64.toInt_neg, q53_b64 (by omega) (by omega)]; omega)⟩
  · split at h
    · cases h
      obtain ⟨w, rfl, hw⟩ := q54_gi rfl hg
      exact ⟨_, rfl, Or.inr (Or.inl ⟨rfl, _, rfl, by rw [Int32.toInt_toInt64]; exact hw⟩)⟩
    · cases h
      obtain ⟨w, rfl, hw⟩ := q54_gi rfl hg
      exact ⟨_, rfl, Or.inr (Or.inl ⟨rfl, _, rfl, by rw [Int32.toInt_toInt64]; exact hw⟩)⟩
    · cases h
  · cases hc : q50_isl x with
    | false => rw [hc] at h; cases h
    | true =>
      rw [hc] at h
      obtain ⟨w, rfl, hw⟩ := q54_gl hc hg
      have ha := q54_iv hE hi hw
      refine ⟨_, rfl, ?_⟩
      cases h1 : (decide (-2147483648 ≤ a.1) && decide (a.2 ≤ 2147483647)) with
      | false =>
        rw [h1] at h
        cases h
        exact q54_any ρ _
      | true =>
        rw [h1] at h
        simp only [Bool.and_eq_true, decide_eq_true_eq] at h1
        have e : w.toInt32.toInt = w.toInt := by rw [Int64.toInt_toInt32, q53_b32 (by omega) (by omega)]
        obtain ⟨t, p, q⟩ := x
        have ht := q54_isl hc
        cases h
        rcases ht with ht | ht
        · have ht : t = 2 := ht
          subst ht
          exact Or.inl ⟨rfl, _, rfl, by rw [e]; exact hw⟩
        · have ht : t = 3 := ht
          subst ht
          exact Or.inl ⟨rfl, _, rfl, by rw [e]; exact hw⟩
  · cases h
