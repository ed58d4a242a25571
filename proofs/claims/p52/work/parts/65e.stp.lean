/-! a statement changes a cellar: the step, the class's, the reference's -/
section W65E
variable {X : Nat → Int32} {n : Nat} {σ : qa_S}
def qd_g (X : Nat → Int32) (a : Nat) (V : Nat → Int32) : Option (Nat → Int32) :=
  if (X a).toInt = 99 then (if (qd_n X 1 (a + 1)).toInt < 6 ∧ (V 0).toInt < 7 then some (qb_addC V (V 0).toInt.toNat (qd_n X 1 (a + 1)) (qd_n X 1 (a + 2)) (qd_n X 4 (a + 3))) else none)
  else if (X a).toInt = 115 then (if (qd_n X 1 (a + 1)).toInt < (V 0).toInt then some (qb_set V (4 + 3 * (qd_n X 1 (a + 1)).toInt.toNat) (qd_n X 1 (a + 2))) else none)
  else if (X a).toInt = 116 then (if 1 ≤ (qd_n X 2 (a + 1)).toInt ∧ (qd_n X 2 (a + 1)).toInt ≤ 15 ∧ (V 1).toInt < 6 then some (qb_addT V (V 1).toInt.toNat (qd_n X 2 (a + 1)) (qd_n X 1 (a + 3)) (qd_n X 1 (a + 4))) else none)
  else (if (qd_n X 1 (a + 1)).toInt < (V 0).toInt ∧ (qd_n X 1 (a + 2)).toInt ≤ 3 then some (qb_set V (23 + 4 * (qd_n X 1 (a + 1)).toInt.toNat + (qd_n X 1 (a + 2)).toInt.toNat) (qd_n X 1 (a + 3))) else none)
/-- the digits of a statement without fault -/
theorem qd_dg {L : Nat → Int} : ∀ (d a : Nat), q9b_f L n d a = none → ∀ i, i < d → a + i < n ∧ 48 ≤ L (a + i) ∧ L (a + i) ≤ 57 := by
  intro d
  induction d with
  | zero => intro a _ i hi; omega
  | succ d ih =>
    intro a h i hi
    have h : (if a < n ∧ 48 ≤ L a ∧ L a ≤ 57 then q9b_f L n d (a + 1) else some a) = none := h
    by_cases c : a < n ∧ 48 ≤ L a ∧ L a ≤ 57
    · rw [if_pos c] at h
      by_cases e : i = 0
      · subst e; exact c
      · have := ih (a + 1) h (i - 1) (by omega)
        rw [show a + 1 + (i - 1) = a + i by omega] at this
        exact this
    · rw [if_neg c] at h; cases h
theorem qd_ed {a : Nat} (h : q9d_e X n a = none) : a < n ∧ q9a_lb (X a).toInt ≠ 0 ∧ ∀ i, 1 ≤ i → i < q9a_lb (X a).toInt → a + i < n ∧ 48 ≤ (X (a + i)).toInt ∧ (X (a + i)).toInt ≤ 57 := by
  unfold q9d_e at h
  by_cases hl : q9a_lb (q9b_h X n a).toInt = 0
  · rw [if_pos hl] at h; cases h
  rw [if_neg hl] at h
  have han : a < n := by
    refine Decidable.byContradiction (fun c => hl ?_)
    unfold q9b_h
    rw [if_neg c]
    decide
  have eX : q9b_h X n a = X a := if_pos han
  rw [eX] at h hl
  refine ⟨han, hl, fun i h1 h2 => ?_⟩
  cases hf : q9b_f (fun i => (X i).toInt) n (q9a_lb (X a).toInt - 1) (a + 1) with
  | some p => rw [hf] at h; cases h
  | none =>
    have := qd_dg (L := fun i => (X i).toInt) _ _ hf (i - 1) (by omega)
    rw [show a + 1 + (i - 1) = a + i by omega] at this
    exact this
theorem qd_st10 {v x : Int32} {b : Int} (hv : 0 ≤ v.toInt ∧ v.toInt ≤ b) (hb : b ≤ 999) (hx : 48 ≤ x.toInt ∧ x.toInt ≤ 57) : (((10 : Int32) * v + x) - 48).toInt = 10 * v.toInt + (x.toInt - 48) := by
  have k10 : (10 : Int32).toInt = 10 := by decide
  have k48 : (48 : Int32).toInt = 48 := by decide
  have e1 : ((10 : Int32) * v).toInt = 10 * v.toInt := by
    rw [Int32.toInt_mul, k10]
    exact q53_b32 (by omega) (by omega)
  have e2 : ((10 : Int32) * v + x).toInt = 10 * v.toInt + x.toInt := by
    rw [Int32.toInt_add, e1]
    exact q53_b32 (by omega) (by omega)
  rw [Int32.toInt_sub, e2, k48, q53_b32 (by omega) (by omega)]
  omega
theorem qd_n1 {p : Nat} (h : 48 ≤ (X p).toInt ∧ (X p).toInt ≤ 57) : (qd_n X 1 p).toInt = (X p).toInt - 48 := by
  have := qd_st10 (v := 0) (b := 0) (by decide) (by decide) h
  rw [show (0 : Int32).toInt = 0 by decide] at this
  show (((10 : Int32) * 0 + X p) - 48).toInt = _
  omega
theorem qd_n1e {p : Nat} : qd_n X 1 p = X p - 48 := by
  show ((10 : Int32) * 0 + X p) - 48 = _
  rw [Int32.mul_zero, Int32.zero_add]
theorem qd_n2 {p : Nat} (h : 48 ≤ (X p).toInt ∧ (X p).toInt ≤ 57) (h' : 48 ≤ (X (p + 1)).toInt ∧ (X (p + 1)).toInt ≤ 57) : (qd_n X 2 p).toInt = 10 * ((X p).toInt - 48) + ((X (p + 1)).toInt - 48) := by
  have e := qd_n1 h
  have := qd_st10 (v := qd_n X 1 p) (b := 9) (by omega) (by decide) h'
  rw [e] at this
  exact this
theorem qd_n4 {p : Nat} (h : ∀ i, i < 4 → 48 ≤ (X (p + i)).toInt ∧ (X (p + i)).toInt ≤ 57) : 0 ≤ (qd_n X 4 p).toInt := by
  have e1 := qd_n1 (h 0 (by omega))
  have h1 := h 1 (by omega)
  have h2 := h 2 (by omega)
  have h3 := h 3 (by omega)
  have h0 := h 0 (by omega)
  have e2 := qd_st10 (v := qd_n X 1 p) (b := 9) (by rw [Nat.add_zero] at e1 h0; omega) (by decide) h1
  have e3 := qd_st10 (v := ((10 : Int32) * qd_n X 1 p + X (p + 1)) - 48) (b := 99) (by rw [e2]; rw [Nat.add_zero] at e1 h0; omega) (by decide) h2
  have e4 := qd_st10 (v := ((10 : Int32) * (((10 : Int32) * qd_n X 1 p + X (p + 1)) - 48) + X (p + 2)) - 48) (b := 999) (by rw [e3, e2]; rw [Nat.add_zero] at e1 h0; omega) (by decide) h3
  have : (qd_n X 4 p).toInt = _ := e4
  rw [this, e3, e2]
  rw [Nat.add_zero] at e1 h0
  omega
theorem qd_addsub (v x : Int32) : v + (x - 48) = (v + x) - 48 := by
  rw [Int32.sub_eq_add_neg, Int32.sub_eq_add_neg, Int32.add_assoc]
/-- the class's digit -/
theorem qd_18 {p : Nat} (hn : n ≤ 96) (h0 : σ 83 0 = nI n) (hX : ∀ i, i < 96 → σ 84 i = X i) (hp : p < n) : ma_18_83 (nI p) σ = X p - 48 := by
  unfold ma_18_83
  rw [if_pos (by rw [h0]; exact qb_ltT hp (by omega)), qb_n (k := p) (by omega), hX p (by omega)]
theorem qb_s3 {k : Nat} : nI k + (3 : Int32) = nI (k + 3) := (Int32.ofNat_add k 3).symm
/-- places and ranges of a statement's step stay -/
theorem qd_gD {a : Nat} {V W : Nat → Int32} (he : q9d_e X n a = none) (hD : qb_D V) (h : qd_g X a V = some W) : qb_D W := by
  obtain ⟨han, hl, hd⟩ := qd_ed he
  have v0 := hD 0 (by omega)
  have v1 := hD 1 (by omega)
  rw [show qb_hi 0 = 7 from rfl] at v0
  rw [show qb_hi 1 = 6 from rfl] at v1
  unfold qd_g at h
  rcases qd_lb (x := X a) with ⟨hx, -, l⟩ | ⟨hx, -, l⟩ | ⟨hx, -, l⟩ | ⟨hx, -, l⟩ | ⟨l, -⟩
  · rw [l] at hd
    have d1 := qd_n1 (hd 1 (by omega) (by omega)).2
    have d2 := qd_n1 (hd 2 (by omega) (by omega)).2
    have b1 := (hd 1 (by omega) (by omega)).2
    have b2 := (hd 2 (by omega) (by omega)).2
    have d4 := qd_n4 (X := X) (p := a + 3) (fun i hi => by rw [show a + 3 + i = a + (3 + i) by omega]; exact (hd (3 + i) (by omega) (by omega)).2)
    rw [if_pos hx] at h
    by_cases c : (qd_n X 1 (a + 1)).toInt < 6 ∧ (V 0).toInt < 7
    · rw [if_pos c] at h
      rw [← Option.some.inj h]
      exact qb_DaC hD (by omega) (by omega) (by omega) d4
    · rw [if_neg c] at h; cases h
  · rw [l] at hd
    have d1 := qd_n1 (hd 1 (by omega) (by omega)).2
    have d2 := qd_n1 (hd 2 (by omega) (by omega)).2
    have b1 := (hd 1 (by omega) (by omega)).2
    have b2 := (hd 2 (by omega) (by omega)).2
    rw [if_neg (by omega), if_pos hx] at h
    by_cases c : (qd_n X 1 (a + 1)).toInt < (V 0).toInt
    · rw [if_pos c] at h
      rw [← Option.some.inj h]
      exact qb_Ds hD (by rw [qb_hS (by omega)]; omega)
    · rw [if_neg c] at h; cases h
  · rw [l] at hd
    have d1 := qd_n2 (hd 1 (by omega) (by omega)).2 (hd 2 (by omega) (by omega)).2
    have d3 := qd_n1 (hd 3 (by omega) (by omega)).2
    have d4 := qd_n1 (hd 4 (by omega) (by omega)).2
    have b3 := (hd 3 (by omega) (by omega)).2
    have b4 := (hd 4 (by omega) (by omega)).2
    rw [if_neg (by omega), if_neg (by omega), if_pos hx] at h
    by_cases c : 1 ≤ (qd_n X 2 (a + 1)).toInt ∧ (qd_n X 2 (a + 1)).toInt ≤ 15 ∧ (V 1).toInt < 6
    · rw [if_pos c] at h
      rw [← Option.some.inj h]
      exact qb_DaT hD (by omega) (by omega) (by omega) (by omega)
    · rw [if_neg c] at h; cases h
  · rw [l] at hd
    have d1 := qd_n1 (hd 1 (by omega) (by omega)).2
    have d2 := qd_n1 (hd 2 (by omega) (by omega)).2
    have d3 := qd_n1 (hd 3 (by omega) (by omega)).2
    have b1 := (hd 1 (by omega) (by omega)).2
    have b2 := (hd 2 (by omega) (by omega)).2
    have b3 := (hd 3 (by omega) (by omega)).2
    rw [if_neg (by omega), if_neg (by omega), if_neg (by omega)] at h
    by_cases c : (qd_n X 1 (a + 1)).toInt < (V 0).toInt ∧ (qd_n X 1 (a + 2)).toInt ≤ 3
    · rw [if_pos c] at h
      rw [← Option.some.inj h]
      exact qb_Ds hD (by rw [qb_hM (by omega) (by omega)]; omega)
    · rw [if_neg c] at h; cases h
  · exact absurd l hl
def qd_o (o : Option (Nat → Int32)) (a : Int32) (g : Nat → Int32) (τ σ : qa_S) : Prop := match o with
  | none => a = 0 ∧ τ = σ
  | some W => a = 1 ∧ ∀ i, i < 69 → g i = W i
theorem qb_toN {x : Int32} (h : 0 ≤ x.toInt) : x = nI x.toInt.toNat := q53_nI h
theorem qd_22 {x : Int32} {V : Nat → Int32} (hx : 0 ≤ x.toInt) (hV : σ 50 0 = V 0) (hD : qb_D V) : ma_22_50 x σ = 0 ↔ ¬ x.toInt < (V 0).toInt := by
  have z : (0 : Int32).toInt = 0 := by decide
  unfold ma_22_50
  rw [if_neg (by rw [Int32.lt_iff_toInt_lt]; omega), hV]
  by_cases h2 : x < V 0
  · rw [if_pos h2]
    rw [Int32.lt_iff_toInt_lt] at h2
    exact ⟨fun c => absurd c (by decide), fun c => absurd h2 c⟩
  · rw [if_neg h2]
    rw [Int32.lt_iff_toInt_lt] at h2
    exact ⟨fun _ => h2, fun _ => rfl⟩
/-- the class: one statement into the draft -/
theorem qd_16 {N a : Nat} {V : Nat → Int32} (hN : 5000 ≤ N) (hn : n ≤ 96) (h0 : σ 83 0 = nI n) (hX : ∀ i, i < 96 → σ 84 i = X i) (he : q9d_e X n a = none) (hV : ∀ i, i < 69 → qb_gc 50 σ i = V i) (hD : qb_D V) : qd_o (qd_g X a V) (ma_16_83_50 N (nI a) σ).1 (qb_gc 50 (ma_16_83_50 N (nI a) σ).2) (ma_16_83_50 N (nI a) σ).2 σ ∧ qb_F (fun b j => (b = 50 ∧ j < 2) ∨ (51 ≤ b ∧ b ≤ 53) ∨ (55 ≤ b ∧ b ≤ 61) ∨ (70 ≤ b ∧ b ≤ 72)) σ (ma_16_83_50 N (nI a) σ).2 := by
  obtain ⟨han, hl, hd⟩ := qd_ed he
  have v0 := hD 0 (by omega)
  have v1 := hD 1 (by omega)
  rw [show qb_hi 0 = 7 from rfl] at v0
  rw [show qb_hi 1 = 6 from rfl] at v1
  have e0 : σ 50 0 = V 0 := hV 0 (by omega)
  have e1 : σ 50 1 = V 1 := hV 1 (by omega)
  have n0 : V 0 = nI (V 0).toInt.toNat := qb_toN v0.1
  have n1 : V 1 = nI (V 1).toInt.toNat := qb_toN v1.1
  have dg : ∀ p, a ≤ p → p < a + q9a_lb (X a).toInt → ma_18_83 (nI p) σ = qd_n X 1 p := fun p h1 h2 => by
    by_cases e : p = a
    · subst e; rw [qd_18 hn h0 hX han, qd_n1e]
    · rw [qd_18 hn h0 hX (by have := (hd (p - a) (by omega) (by omega)).1; omega), qd_n1e]
  unfold ma_16_83_50 qd_g
  rw [qb_n (k := a) (by omega), hX a (by omega), qb_s]
  rcases qd_lb (x := X a) with ⟨hx, ex, l⟩ | ⟨hx, ex, l⟩ | ⟨hx, ex, l⟩ | ⟨hx, ex, l⟩ | ⟨l, -⟩
  · rw [l] at hd dg
    have d1 := qd_n1 (hd 1 (by omega) (by omega)).2
    have b1 := (hd 1 (by omega) (by omega)).2
    rw [if_pos ex, if_pos hx]
    dsimp only [qa_in]
    unfold ma_17_83_50
    rw [dg (a + 1) (by omega) (by omega)]
    by_cases c1 : ma_19 (qd_n X 1 (a + 1)) = 0
    · rw [if_pos c1, if_neg (fun c => qb_19.mp c1 (by omega))]
      exact ⟨⟨rfl, rfl⟩, qb_Fr⟩
    rw [if_neg c1]
    have c1' := Decidable.not_not.mp (fun h => c1 (qb_19.mpr h))
    rw [e0]
    by_cases c2 : (V 0).toInt < 7
    · rw [if_pos (show V 0 < (7 : Int32) by rw [Int32.lt_iff_toInt_lt]; exact c2), if_pos ⟨by omega, c2⟩]
      dsimp only [qa_in]
      rw [qb_s, dg (a + 1 + 1) (by omega) (by omega)]
      have hm : (qa_wh (fun s => s) (mc_17_83_50_p30 N (nI (a + 1)) (qd_n X 1 (a + 1)) σ) N ((0 : Int32), (0 : Int32))).2 = qd_n X 4 (a + 3) := by
        obtain ⟨m, rfl⟩ : ∃ m, N = m + 5 := ⟨N - 5, by omega⟩
        have st : ∀ (j : Nat) (v : Int32), j < 4 → mc_17_83_50_p30 (m + 5) (nI (a + 1)) (qd_n X 1 (a + 1)) σ (nI j, v) = .inl (nI (j + 1), ((10 : Int32) * v + X (a + 3 + j)) - 48) := by
          intro j v hj
          unfold mc_17_83_50_p30
          dsimp only
          rw [if_pos (show nI j < (4 : Int32) from qb_ltT (b := 4) hj (by omega)), qb_s, qb_s2, show nI (a + 1 + 2) + nI j = nI (a + 3 + j) from (Int32.ofNat_add (a + 1 + 2) j).symm, dg (a + 3 + j) (by omega) (by omega), qd_n1e, qd_addsub]
        rw [qa_whl (s := (0, 0)) (st 0 0 (by omega)), qa_whl (st 1 _ (by omega)), qa_whl (st 2 _ (by omega)), qa_whl (st 3 _ (by omega)), qa_whr (b := (nI 4, qd_n X 4 (a + 3))) (by
          unfold mc_17_83_50_p30
          dsimp only
          rw [if_neg (show ¬ nI 4 < (4 : Int32) by decide)]
          rfl)]
      rw [hm]
      obtain ⟨f1, f2⟩ := qb_20_50 (σ := σ) (V := V) (u := (V 0).toInt.toNat) (N := N) (k := qd_n X 1 (a + 1)) (f := qd_n X 1 (a + 2)) (z := qd_n X 4 (a + 3)) (by omega) (by omega) (e0.trans n0) hV
      exact ⟨⟨rfl, f1⟩, qb_Fw f2 (fun _ _ h => by omega)⟩
    · rw [if_neg (show ¬ V 0 < (7 : Int32) by rw [Int32.lt_iff_toInt_lt]; exact c2), if_neg (fun c => c2 c.2)]
      exact ⟨⟨rfl, rfl⟩, qb_Fr⟩
  · rw [l] at hd dg
    have d1 := qd_n1 (hd 1 (by omega) (by omega)).2
    have b1 := (hd 1 (by omega) (by omega)).2
    have x99 : ¬ X a = (99 : Int32) := by rw [ex]; decide
    have y99 : ¬ (X a).toInt = 99 := by omega
    rw [if_neg x99, if_pos ex, if_neg y99, if_pos hx]
    dsimp only [qa_in]
    unfold ma_21_83_50
    rw [dg (a + 1) (by omega) (by omega)]
    by_cases c1 : (qd_n X 1 (a + 1)).toInt < (V 0).toInt
    · rw [if_neg (fun c => (qd_22 (by omega) e0 hD).mp c c1), if_pos c1]
      dsimp only [qa_in]
      rw [qb_s, dg (a + 1 + 1) (by omega) (by omega)]
      refine ⟨⟨rfl, qb_cs hV (by omega) (qb_cS (by omega))⟩, fun b j h => ?_⟩
      exact qb_uA (by omega)
    · rw [if_pos ((qd_22 (by omega) e0 hD).mpr c1), if_neg c1]
      exact ⟨⟨rfl, rfl⟩, qb_Fr⟩
  · rw [l] at hd dg
    have d1 := qd_n1 (hd 1 (by omega) (by omega)).2
    have b1 := (hd 1 (by omega) (by omega)).2
    have d2 := qd_n2 (hd 1 (by omega) (by omega)).2 (hd 2 (by omega) (by omega)).2
    have ev : (10 : Int32) * ma_18_83 (nI (a + 1)) σ + ma_18_83 (nI (a + 1) + 1) σ = qd_n X 2 (a + 1) := by
      rw [qb_s, dg (a + 1) (by omega) (by omega), dg (a + 1 + 1) (by omega) (by omega), qd_n1e (p := a + 1 + 1), qd_addsub]
      rfl
    have x99 : ¬ X a = (99 : Int32) := by rw [ex]; decide
    have y99 : ¬ (X a).toInt = 99 := by omega
    have x115 : ¬ X a = (115 : Int32) := by rw [ex]; decide
    have y115 : ¬ (X a).toInt = 115 := by omega
    rw [if_neg x99, if_neg x115, if_pos ex, if_neg y99, if_neg y115, if_pos hx]
    dsimp only [qa_in]
    unfold ma_23_83_50
    rw [ev]
    have k1 : (1 : Int32).toInt = 1 := by decide
    have k15 : (15 : Int32).toInt = 15 := by decide
    by_cases c1 : qd_n X 2 (a + 1) < 1
    · rw [if_pos c1]
      rw [Int32.lt_iff_toInt_lt] at c1
      rw [if_neg (by omega)]
      exact ⟨⟨rfl, rfl⟩, qb_Fr⟩
    rw [if_neg c1]
    rw [Int32.lt_iff_toInt_lt] at c1
    by_cases c2 : 15 < qd_n X 2 (a + 1)
    · rw [if_pos c2]
      rw [Int32.lt_iff_toInt_lt] at c2
      rw [if_neg (by omega)]
      exact ⟨⟨rfl, rfl⟩, qb_Fr⟩
    rw [if_neg c2]
    rw [Int32.lt_iff_toInt_lt] at c2
    rw [e1]
    by_cases c3 : (V 1).toInt < 6
    · rw [if_pos (show V 1 < (6 : Int32) by rw [Int32.lt_iff_toInt_lt]; exact c3), if_pos ⟨by omega, by omega, c3⟩]
      dsimp only [qa_in]
      rw [qb_s2, qb_s3, dg (a + 1 + 2) (by omega) (by omega), dg (a + 1 + 3) (by omega) (by omega)]
      obtain ⟨f1, f2⟩ := qb_24_50 (σ := σ) (V := V) (u := (V 1).toInt.toNat) (k := qd_n X 2 (a + 1)) (f := qd_n X 1 (a + 3)) (z := qd_n X 1 (a + 4)) (by omega) (e1.trans n1) hV
      exact ⟨⟨rfl, f1⟩, qb_Fw f2 (fun _ _ h => by omega)⟩
    · rw [if_neg (show ¬ V 1 < (6 : Int32) by rw [Int32.lt_iff_toInt_lt]; exact c3), if_neg (fun c => c3 c.2.2)]
      exact ⟨⟨rfl, rfl⟩, qb_Fr⟩
  · rw [l] at hd dg
    have d1 := qd_n1 (hd 1 (by omega) (by omega)).2
    have d2 := qd_n1 (hd 2 (by omega) (by omega)).2
    have b1 := (hd 1 (by omega) (by omega)).2
    have b2 := (hd 2 (by omega) (by omega)).2
    have x99 : ¬ X a = (99 : Int32) := by rw [ex]; decide
    have y99 : ¬ (X a).toInt = 99 := by omega
    have x115 : ¬ X a = (115 : Int32) := by rw [ex]; decide
    have y115 : ¬ (X a).toInt = 115 := by omega
    have x116 : ¬ X a = (116 : Int32) := by rw [ex]; decide
    have y116 : ¬ (X a).toInt = 116 := by omega
    rw [if_neg x99, if_neg x115, if_neg x116, if_neg y99, if_neg y115, if_neg y116]
    dsimp only [qa_in]
    unfold ma_25_83_50
    rw [dg (a + 1) (by omega) (by omega), qb_s, dg (a + 1 + 1) (by omega) (by omega), show a + 1 + 1 = a + 2 from rfl]
    by_cases c1 : (qd_n X 1 (a + 1)).toInt < (V 0).toInt
    · rw [if_neg (fun c => (qd_22 (by omega) e0 hD).mp c c1)]
      by_cases c2 : ma_26 (qd_n X 1 (a + 2)) = 0
      · rw [if_pos c2, if_neg (fun c => qb_26z.mp c2 (by have := c.2; omega))]
        exact ⟨⟨rfl, rfl⟩, qb_Fr⟩
      · have c2' := Decidable.not_not.mp (fun h => c2 (qb_26z.mpr h))
        rw [if_neg c2, if_pos ⟨c1, c2'.2⟩]
        dsimp only [qa_in]
        rw [qb_s2, dg (a + 1 + 2) (by omega) (by omega)]
        refine ⟨⟨rfl, qb_cs hV (by omega) (qb_cM (by omega) (by omega))⟩, fun b j h => ?_⟩
        refine qb_uA (fun c => h ?_)
        rw [c]
        have : (qd_n X 1 (a + 1)).toNatClampNeg = (qd_n X 1 (a + 1)).toInt.toNat := rfl
        omega
    · rw [if_pos ((qd_22 (by omega) e0 hD).mpr c1), if_neg (fun c => c1 c.1)]
      exact ⟨⟨rfl, rfl⟩, qb_Fr⟩
  · exact absurd l hl
theorem qd_163 {x : Int32} {V : Nat → Int32} (hx : 0 ≤ x.toInt) (hV : σ 99 0 = V 0) (hD : qb_D V) : ma_163_99 x σ = 0 ↔ ¬ x.toInt < (V 0).toInt := by
  have v0 := hD 0 (by omega)
  rw [show qb_hi 0 = 7 from rfl] at v0
  rw [qb_163 (n := (V 0).toInt.toNat) (by omega) (hV.trans (qb_toN v0.1))]
  omega
/-- the reference: one statement told -/
theorem qd_161 {N a i : Nat} {V : Nat → Int32} (hN : 5000 ≤ N) (hi : i < 100) (h15 : σ 115 i = X a) (hT : qd_V X σ a (3 * i)) (he : q9d_e X n a = none) (hV : ∀ i, i < 69 → qb_gm σ i = V i) (hD : qb_D V) : qd_o (qd_g X a V) (ma_161_99 N (nI i) σ).1 (qb_gm (ma_161_99 N (nI i) σ).2) (ma_161_99 N (nI i) σ).2 σ ∧ qb_F (fun b j => (b = 99 ∧ (j = 0 ∨ j = 5)) ∨ (100 ≤ b ∧ b ≤ 106)) σ (ma_161_99 N (nI i) σ).2 := by
  obtain ⟨han, hl, hd⟩ := qd_ed he
  have v0 := hD 0 (by omega)
  have v1 := hD 1 (by omega)
  rw [show qb_hi 0 = 7 from rfl] at v0
  rw [show qb_hi 1 = 6 from rfl] at v1
  have e0 : σ 99 0 = V 0 := hV 0 (by omega)
  have e1 : σ 99 5 = V 1 := hV 1 (by omega)
  have n0 : V 0 = nI (V 0).toInt.toNat := qb_toN v0.1
  have n1 : V 1 = nI (V 1).toInt.toNat := qb_toN v1.1
  unfold ma_161_99 qd_g
  rw [qb_m3, qb_s, qb_s2, qb_n (k := i) (by omega), qb_n (k := 3 * i) (by omega), qb_n (k := 3 * i + 1) (by omega), qb_n (k := 3 * i + 2) (by omega), h15]
  obtain ⟨t1, t2, t3, t4⟩ := hT
  rcases qd_lb (x := X a) with ⟨hx, ex, l⟩ | ⟨hx, ex, l⟩ | ⟨hx, ex, l⟩ | ⟨hx, ex, l⟩ | ⟨l, -⟩
  · obtain ⟨u1, u2, u3⟩ := t1 hx
    rw [u1, u2, u3, if_pos ex, if_pos hx]
    dsimp only [qa_in]
    rw [e0]
    by_cases c1 : (qd_n X 1 (a + 1)).toInt < 6
    · rw [if_pos (show qd_n X 1 (a + 1) < (6 : Int32) by rw [Int32.lt_iff_toInt_lt]; exact c1)]
      by_cases c2 : (V 0).toInt < 7
      · rw [if_pos (show V 0 < (7 : Int32) by rw [Int32.lt_iff_toInt_lt]; exact c2), if_pos ⟨c1, c2⟩, if_neg (show ¬ (1 : Int32) = 0 by decide)]
        obtain ⟨f1, f2⟩ := qb_162 (σ := σ) (V := V) (u := (V 0).toInt.toNat) (N := N) (k := qd_n X 1 (a + 1)) (f := qd_n X 1 (a + 2)) (z := qd_n X 4 (a + 3)) (by omega) (by omega) (e0.trans n0) hV
        exact ⟨⟨rfl, f1⟩, qb_Fw f2 (fun _ _ h => by omega)⟩
      · rw [if_neg (show ¬ V 0 < (7 : Int32) by rw [Int32.lt_iff_toInt_lt]; exact c2), if_neg (fun c => c2 c.2), if_pos rfl]
        exact ⟨⟨rfl, rfl⟩, qb_Fr⟩
    · rw [if_neg (show ¬ qd_n X 1 (a + 1) < (6 : Int32) by rw [Int32.lt_iff_toInt_lt]; exact c1), if_neg (fun c => c1 c.1), if_pos rfl]
      exact ⟨⟨rfl, rfl⟩, qb_Fr⟩
  · rw [l] at hd
    have d1 := qd_n1 (hd 1 (by omega) (by omega)).2
    have b1 := (hd 1 (by omega) (by omega)).2
    obtain ⟨u1, u2⟩ := t2 hx
    have x99 : ¬ X a = (99 : Int32) := by rw [ex]; decide
    have y99 : ¬ (X a).toInt = 99 := by omega
    rw [u1, u2, if_neg x99, if_pos ex, if_neg y99, if_pos hx]
    dsimp only [qa_in]
    have q := qd_163 (σ := σ) (x := qd_n X 1 (a + 1)) (by omega) e0 hD
    by_cases c1 : (qd_n X 1 (a + 1)).toInt < (V 0).toInt
    · have v : ma_163_99 (qd_n X 1 (a + 1)) σ = 1 := by
        have h : ¬ ma_163_99 (qd_n X 1 (a + 1)) σ = 0 := fun c => q.mp c c1
        unfold ma_163_99 at h ⊢
        rw [qb_158] at h ⊢
        by_cases c : Int64.toInt 0 ≤ (qd_n X 1 (a + 1)).toInt64.toInt ∧ (qd_n X 1 (a + 1)).toInt64.toInt ≤ (σ 99 0 - 1).toInt64.toInt
        · rw [if_pos c]
        · rw [if_neg c] at h; exact absurd rfl h
      rw [v, if_neg (show ¬ (1 : Int32) = 0 by decide), if_pos c1]
      refine ⟨⟨rfl, qb_ms hV (by omega) (qb_mS _ (by omega))⟩, fun b j h => qb_uA (by omega)⟩
    · rw [if_pos (q.mpr c1), if_neg c1]
      exact ⟨⟨q.mpr c1, rfl⟩, qb_Fr⟩
  · obtain ⟨u1, u2, u3⟩ := t3 hx
    have x99 : ¬ X a = (99 : Int32) := by rw [ex]; decide
    have y99 : ¬ (X a).toInt = 99 := by omega
    have x115 : ¬ X a = (115 : Int32) := by rw [ex]; decide
    have y115 : ¬ (X a).toInt = 115 := by omega
    rw [u1, u2, u3, if_neg x99, if_neg x115, if_pos ex, if_neg y99, if_neg y115, if_pos hx]
    dsimp only [qa_in]
    rw [e1]
    have q : ma_158 (qd_n X 2 (a + 1)).toInt64 1 15 = 0 ↔ ¬ (1 ≤ (qd_n X 2 (a + 1)).toInt ∧ (qd_n X 2 (a + 1)).toInt ≤ 15) := by rw [qb_158z, qb_l, show (1 : Int64).toInt = 1 by decide, show (15 : Int64).toInt = 15 by decide]
    by_cases c1 : 1 ≤ (qd_n X 2 (a + 1)).toInt ∧ (qd_n X 2 (a + 1)).toInt ≤ 15
    · rw [if_neg (fun c => q.mp c c1)]
      by_cases c2 : (V 1).toInt < 6
      · rw [if_pos (show V 1 < (6 : Int32) by rw [Int32.lt_iff_toInt_lt]; exact c2), if_pos ⟨c1.1, c1.2, c2⟩, if_neg (show ¬ (1 : Int32) = 0 by decide)]
        obtain ⟨f1, f2⟩ := qb_164 (σ := σ) (V := V) (u := (V 1).toInt.toNat) (k := qd_n X 2 (a + 1)) (f := qd_n X 1 (a + 3)) (z := qd_n X 1 (a + 4)) (by omega) (e1.trans n1) hV
        exact ⟨⟨rfl, f1⟩, qb_Fw f2 (fun _ _ h => by omega)⟩
      · rw [if_neg (show ¬ V 1 < (6 : Int32) by rw [Int32.lt_iff_toInt_lt]; exact c2), if_neg (fun c => c2 c.2.2), if_pos rfl]
        exact ⟨⟨rfl, rfl⟩, qb_Fr⟩
    · rw [if_pos (q.mpr c1), if_neg (fun c => c1 ⟨c.1, c.2.1⟩), if_pos rfl]
      exact ⟨⟨rfl, rfl⟩, qb_Fr⟩
  · rw [l] at hd
    have d1 := qd_n1 (hd 1 (by omega) (by omega)).2
    have d2 := qd_n1 (hd 2 (by omega) (by omega)).2
    have b1 := (hd 1 (by omega) (by omega)).2
    have b2 := (hd 2 (by omega) (by omega)).2
    obtain ⟨u1, u2, u3⟩ := t4 hx
    have x99 : ¬ X a = (99 : Int32) := by rw [ex]; decide
    have y99 : ¬ (X a).toInt = 99 := by omega
    have x115 : ¬ X a = (115 : Int32) := by rw [ex]; decide
    have y115 : ¬ (X a).toInt = 115 := by omega
    have x116 : ¬ X a = (116 : Int32) := by rw [ex]; decide
    have y116 : ¬ (X a).toInt = 116 := by omega
    rw [u1, u2, u3, if_neg x99, if_neg x115, if_neg x116, if_neg y99, if_neg y115, if_neg y116]
    dsimp only [qa_in]
    have q := qd_163 (σ := σ) (x := qd_n X 1 (a + 1)) (by omega) e0 hD
    by_cases c1 : (qd_n X 1 (a + 1)).toInt < (V 0).toInt
    · rw [if_neg (fun c => q.mp c c1)]
      by_cases c2 : (qd_n X 1 (a + 2)).toInt ≤ 3
      · rw [if_neg (fun c => qb_165.mp c ⟨by omega, c2⟩), if_neg (show ¬ (1 : Int32) = 0 by decide), if_pos ⟨c1, c2⟩]
        obtain ⟨c, hc⟩ : ∃ c : Nat, c = (qd_n X 1 (a + 1)).toInt.toNat := ⟨_, rfl⟩
        obtain ⟨m, hm⟩ : ∃ m : Nat, m = (qd_n X 1 (a + 2)).toInt.toNat := ⟨_, rfl⟩
        have hc' : qd_n X 1 (a + 1) = nI c := by rw [hc]; exact qb_toN (by omega)
        have hm' : qd_n X 1 (a + 2) = nI m := by rw [hm]; exact qb_toN (by omega)
        have c7 : c < 7 := by omega
        have m4 : m < 4 := by omega
        rw [← hc, ← hm, hc', hm', qb_i4 c c7 m m4]
        exact ⟨⟨rfl, qb_ms hV (by omega) (qb_mM c c7 m m4)⟩, fun b j h => qb_uA (by omega)⟩
      · rw [if_pos (qb_165.mpr (fun c => c2 c.2)), if_pos rfl, if_neg (fun c => c2 c.2)]
        exact ⟨⟨rfl, rfl⟩, qb_Fr⟩
    · rw [if_pos (q.mpr c1), if_pos rfl, if_neg (fun c => c1 c.1)]
      exact ⟨⟨rfl, rfl⟩, qb_Fr⟩
  · exact absurd l hl
end W65E
