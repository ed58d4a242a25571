/-! hidden, substitutes -/
theorem qw_two {A B : Type} {e : A → B} {step : A → A ⊕ B} {N : Nat} (hN : 3 ≤ N) {s0 s1 s2 : A} {r : B} (h0 : step s0 = .inl s1) (h1 : step s1 = .inl s2) (h2 : step s2 = .inr r) : qa_wh e step N s0 = r := by
  obtain ⟨M, rfl⟩ : ∃ M, N = M + 3 := ⟨N - 3, by omega⟩
  rw [qa_whl h0, qa_whl h1, qa_whr h2]
theorem qw_p0 {a : Nat} (h : a < 2147483648) : (0 < nI a) ↔ ¬ a = 0 := by
  rw [Int32.lt_iff_toInt_lt, nI_toInt h, show (0 : Int32).toInt = 0 by decide]
  omega
section Q9
variable {n t : Nat} {x s : Nat → Nat} {T : Nat → Nat → Nat} {o b : Nat → Nat} {σ τ : qa_S} {N : Nat}
def qs_G (n t : Nat) (x s : Nat → Nat) (T : Nat → Nat → Nat) (o b : Nat → Nat) (c v : Nat) (a : Int32 × Nat) : Int32 × Nat := if qs_D n t x s T o b c v = 0 then (if a.2 = 0 then nI (10 * c + v) else a.1, a.2 + 1) else a
def qs_H (n t : Nat) (x s : Nat → Nat) (T : Nat → Nat → Nat) (o b : Nat → Nat) (c : Nat) (a : Int32 × Nat) : Int32 × Nat := (fun a => if s c = 9 then a else qs_G n t x s T o b c (s c + 1) a) (if s c = 0 then a else qs_G n t x s T o b c (s c - 1) a)
def qs_J (k : Nat) (a : Int32 × Nat) : Prop := a.2 ≤ k ∧ ((a.2 = 0 ∧ a.1 = -9) ∨ (0 < a.2 ∧ 0 ≤ a.1.toInt))
theorem qs_GJ {c v k : Nat} {a : Int32 × Nat} (hc : c < 7) (hv : v ≤ 9) (h : qs_J k a) : qs_J (k + 1) (qs_G n t x s T o b c v a) := by
  obtain ⟨h1, h2⟩ := h
  unfold qs_G
  split
  · refine ⟨by dsimp only; omega, Or.inr ⟨by dsimp only; omega, ?_⟩⟩
    dsimp only
    split
    · rw [nI_toInt (by omega)]; omega
    · rcases h2 with ⟨g1, g2⟩ | ⟨g1, g2⟩
      · omega
      · exact g2
  · exact ⟨by omega, h2⟩
theorem qs_HJ {c k : Nat} {a : Int32 × Nat} (hc : c < 7) (hs : s c ≤ 9) (h : qs_J k a) : qs_J (k + 2) (qs_H n t x s T o b c a) := by
  have up : ∀ {k a}, qs_J k a → qs_J (k + 1) a := fun h => ⟨by have := h.1; omega, h.2⟩
  have h1 : qs_J (k + 1) (if s c = 0 then a else qs_G n t x s T o b c (s c - 1) a) := by
    split
    · exact up h
    · exact qs_GJ hc (by omega) h
  unfold qs_H
  dsimp only
  by_cases e : s c = 9
  · rw [if_pos e]; exact up h1
  · rw [if_neg e]; exact qs_GJ hc (by omega) h1
theorem qs_h1 {c v : Nat} {l1 l5 : Int32} {a : Int32 × Nat} (hN : 10 ≤ N) (hB : qv_B n t s T o b) (hV : qv_V n t x s T o b σ) (hc : c < n) (hv : v ≤ 9) (ha : a.2 < 1000) (h : ¬ l5 + 1 < nI v) : ∃ m', mc_123_3_p56 N l1 (nI c) l5 (nI v, a.1, nI a.2, σ) = .inl (nI v + 2, (qs_G n t x s T o b c v a).1, nI (qs_G n t x s T o b c v a).2, m') ∧ qv_V n t x s T o b m' := by
  obtain ⟨h1, h2⟩ := qv_117 hN hB hV hc hv
  have t6 := hB.2.1
  have D6 := qs_Dl (n := n) (t := t) (x := x) (s := s) (T := T) (o := o) (b := b) (c := c) (v := v)
  refine ⟨_, ?_, h2⟩
  unfold mc_123_3_p56
  dsimp only [qa_in]
  rw [if_neg h, h1]
  have n0 := qw_n0 (u := v) (by omega)
  have n9 : ¬ 9 < nI v := qb_ltF (a := 9) (by omega) (by omega)
  simp only [if_neg n0, if_neg n9]
  unfold qs_G
  by_cases z : qs_D n t x s T o b c v = 0
  · have z' : ¬ 0 < nI (qs_D n t x s T o b c v) := fun e => (qw_p0 (by omega)).mp e z
    simp only [if_neg z', if_pos z]
    by_cases w : a.2 = 0
    · simp only [if_pos w, w, if_pos (show nI 0 = 0 from rfl), qw_tn]; rfl
    · simp only [if_neg w, if_neg (fun e => w ((qw_z (by omega)).mp e)), qb_s]
  · have z' : 0 < nI (qs_D n t x s T o b c v) := (qw_p0 (by omega)).mpr z
    simp only [if_pos z', if_neg z]
theorem qs_h2 {c : Nat} {l1 : Int32} {a : Int32 × Nat} (hN : 10 ≤ N) (hB : qv_B n t s T o b) (hV : qv_V n t x s T o b σ) (hc : c < n) (ha : a.2 < 900) : ∃ v m', qa_wh (fun s => s) (mc_123_3_p56 N l1 (nI c) (nI (s c))) N (nI (s c) - 1, a.1, nI a.2, σ) = (v, (qs_H n t x s T o b c a).1, nI (qs_H n t x s T o b c a).2, m') ∧ qv_V n t x s T o b m' := by
  have n7 := hB.1
  have s9 := hB.2.2.1 c (by omega)
  have d1 : ∀ i, i ≤ 9 → nI i - 1 + 2 = nI (i + 1) ∧ ¬ nI i + 1 < nI i - 1 := by
    have : ∀ i, i < 10 → nI i - 1 + 2 = nI (i + 1) ∧ ¬ nI i + 1 < nI i - 1 := by decide
    exact fun i hi => this i (by omega)
  obtain ⟨d2, d3⟩ := d1 (s c) s9
  obtain ⟨a1, ea⟩ : ∃ a1, a1 = (if s c = 0 then a else qs_G n t x s T o b c (s c - 1) a) := ⟨_, rfl⟩
  have A : ∃ m', mc_123_3_p56 N l1 (nI c) (nI (s c)) (nI (s c) - 1, a.1, nI a.2, σ) = .inl (nI (s c + 1), a1.1, nI a1.2, m') ∧ qv_V n t x s T o b m' := by
    rw [ea, ← d2]
    by_cases z : s c = 0
    · rw [if_pos z, z]
      refine ⟨σ, ?_, hV⟩
      unfold mc_123_3_p56
      dsimp only [qa_in]
      have e1 : nI 0 - 1 < 0 := by decide
      have e2 : ¬ nI 0 + 1 < nI 0 - 1 := by decide
      rw [if_neg e2]
      simp only [if_pos e1]
    · rw [if_neg z]
      have e : nI (s c) - 1 = nI (s c - 1) := qw_sub (b := 1) (by omega)
      rw [e] at d3 ⊢
      exact qs_h1 hN hB hV hc (by omega) (by omega) d3
  obtain ⟨m1, A1, V1⟩ := A
  have ha1 : a1.2 < 1000 := by
    rw [ea]; split
    · omega
    · unfold qs_G; split
      · dsimp only; omega
      · omega
  have Bq : ∃ m', mc_123_3_p56 N l1 (nI c) (nI (s c)) (nI (s c + 1), a1.1, nI a1.2, m1) = .inl (nI (s c + 1) + 2, (qs_H n t x s T o b c a).1, nI (qs_H n t x s T o b c a).2, m') ∧ qv_V n t x s T o b m' := by
    have e2 : ¬ nI (s c) + 1 < nI (s c + 1) := by rw [qb_s]; exact qb_ltF (Nat.le_refl _) (by omega)
    unfold qs_H
    rw [← ea]
    dsimp only
    by_cases z : s c = 9
    · rw [if_pos z]
      refine ⟨m1, ?_, V1⟩
      unfold mc_123_3_p56
      dsimp only [qa_in]
      rw [if_neg e2, z]
      have e1 : ¬ nI (9 + 1) < 0 := by decide
      have e3 : 9 < nI (9 + 1) := by decide
      simp only [if_neg e1, if_pos e3]
    · rw [if_neg z]
      exact qs_h1 hN hB V1 hc (by omega) (by omega) e2
  obtain ⟨m2, B1, V2⟩ := Bq
  refine ⟨nI (s c + 1) + 2, m2, qw_two (by omega) A1 B1 ?_, V2⟩
  unfold mc_123_3_p56
  dsimp only
  rw [if_pos (by rw [qb_s, qb_s2]; exact qb_ltT (by omega) (by omega))]
theorem qs_h3 {c v : Nat} {l1 y : Int32} {a : Int32 × Nat} {k : Nat} (hN : 10 ≤ N) (hB : qv_B n t s T o b) (hW : qv_W n t x s T o b τ) (hc : c < n) (hv : v ≤ 9) (ha : qs_J k a) (hk : k < 1000) (hy : nI (s c) + y = nI v) (h : ¬ 1 < y) : ∃ m', mc_235_99_p46 N l1 (nI c) (y, nI a.2, a.1, τ) = .inl (y + 2, nI (qs_G n t x s T o b c v a).2, (qs_G n t x s T o b c v a).1, m') ∧ qv_W n t x s T o b m' := by
  obtain ⟨h1, h2⟩ := qv_218 hN hB hW hc hv
  have n7 := hB.1
  have t6 := hB.2.1
  have D6 := qs_Dl (n := n) (t := t) (x := x) (s := s) (T := T) (o := o) (b := b) (c := c) (v := v)
  have sc := hW.1.2.2.1 c (by omega)
  refine ⟨_, ?_, h2⟩
  unfold mc_235_99_p46
  dsimp only [qa_in]
  rw [if_neg h, qb_n (k := c) (by omega)]
  have hsy : τ 103 c + y = nI v := by rw [sc, hy]
  have l : ¬ ma_158 (nI v).toInt64 0 9 = 0 := fun e => by
    rw [qb_158z, qb_l, nI_toInt (by omega), show (0 : Int64).toInt = 0 by decide, show (9 : Int64).toInt = 9 by decide] at e
    omega
  simp only [hsy, h1, if_neg l]
  obtain ⟨j1, j2⟩ := ha
  unfold qs_G
  by_cases z : qs_D n t x s T o b c v = 0
  · have z' : nI (qs_D n t x s T o b c v) = 0 := (qw_z (by omega)).mpr z
    have k1 : ¬ (1 : Int32) = 0 := by decide
    simp only [if_pos z', if_pos z, if_neg k1, qb_s]
    rcases j2 with ⟨g1, g2⟩ | ⟨g1, g2⟩
    · have n9 : (-9 : Int32) < 0 := by decide
      simp only [g1, g2, if_pos n9, if_pos trivial, qw_tn]
    · have n0 : ¬ a.1 < 0 := fun e => by rw [Int32.lt_iff_toInt_lt] at e; rw [show (0 : Int32).toInt = 0 by decide] at e; omega
      simp only [if_neg n0, if_neg (show ¬ a.2 = 0 by omega)]
  · have z' : ¬ nI (qs_D n t x s T o b c v) = 0 := fun e => z ((qw_z (by omega)).mp e)
    simp only [if_neg z', if_neg z, ↓reduceIte, Int32.add_zero]
theorem qs_h4 {c : Nat} {l1 : Int32} {a : Int32 × Nat} {k : Nat} (hN : 10 ≤ N) (hB : qv_B n t s T o b) (hW : qv_W n t x s T o b τ) (hc : c < n) (ha : qs_J k a) (hk : k < 900) : ∃ v m', qa_wh (fun s => s) (mc_235_99_p46 N l1 (nI c)) N (-1, nI a.2, a.1, τ) = (v, nI (qs_H n t x s T o b c a).2, (qs_H n t x s T o b c a).1, m') ∧ qv_W n t x s T o b m' := by
  have n7 := hB.1
  have s9 := hB.2.2.1 c (by omega)
  obtain ⟨a1, ea⟩ : ∃ a1, a1 = (if s c = 0 then a else qs_G n t x s T o b c (s c - 1) a) := ⟨_, rfl⟩
  have sc := hW.1.2.2.1 c (by omega)
  have A : ∃ m', mc_235_99_p46 N l1 (nI c) (-1, nI a.2, a.1, τ) = .inl (1, nI a1.2, a1.1, m') ∧ qv_W n t x s T o b m' := by
    rw [ea]
    by_cases z : s c = 0
    · rw [if_pos z]
      refine ⟨τ, ?_, hW⟩
      unfold mc_235_99_p46
      dsimp only [qa_in]
      have e2 : ¬ (1 : Int32) < -1 := by decide
      rw [if_neg e2, qb_n (k := c) (by omega)]
      have hsy : τ 103 c + -1 = nI 0 + -1 := by rw [sc, z]
      have l : ma_158 (nI 0 + -1).toInt64 0 9 = 0 := by decide
      have d : (-1 : Int32) + 2 = 1 := by decide
      simp only [hsy, if_pos l, d]
    · rw [if_neg z]
      have e : nI (s c) + -1 = nI (s c - 1) := by
        have : ∀ i, i < 10 → i ≠ 0 → nI i + -1 = nI (i - 1) := by decide
        exact this (s c) (by omega) z
      exact qs_h3 hN hB hW hc (by omega) ha (by omega) e (by decide)
  obtain ⟨m1, A1, V1⟩ := A
  have ha1 : qs_J (k + 1) a1 := by
    rw [ea]; split
    · exact ⟨by have := ha.1; omega, ha.2⟩
    · exact qs_GJ (by omega) (by omega) ha
  have Bq : ∃ m', mc_235_99_p46 N l1 (nI c) (1, nI a1.2, a1.1, m1) = .inl (3, nI (qs_H n t x s T o b c a).2, (qs_H n t x s T o b c a).1, m') ∧ qv_W n t x s T o b m' := by
    unfold qs_H
    rw [← ea]
    dsimp only
    have sc1 := V1.1.2.2.1 c (by omega)
    by_cases z : s c = 9
    · rw [if_pos z]
      refine ⟨m1, ?_, V1⟩
      unfold mc_235_99_p46
      dsimp only [qa_in]
      have e2 : ¬ (1 : Int32) < 1 := by decide
      rw [if_neg e2, qb_n (k := c) (by omega)]
      have hsy : m1 103 c + 1 = nI 9 + 1 := by rw [sc1, z]
      have l : ma_158 (nI 9 + 1).toInt64 0 9 = 0 := by decide
      have d : (1 : Int32) + 2 = 3 := by decide
      simp only [hsy, if_pos l, d]
    · rw [if_neg z]
      exact qs_h3 hN hB V1 hc (by omega) ha1 (by omega) qb_s (by decide)
  obtain ⟨m2, B1, V2⟩ := Bq
  refine ⟨3, m2, qw_two (by omega) A1 B1 ?_, V2⟩
  unfold mc_235_99_p46
  dsimp only
  rw [if_pos (by decide)]
theorem qc_123 {xx yy : Prop} (hN : 5000 ≤ N) (hI : qb_I xx yy σ) (x1 : Int32) : (ma_123_3 N x1 σ).1 = (ma_235_99 N x1 (ma_123_3 N x1 σ).2).1 := by
  obtain ⟨n, t, s, T, o, b, B, C, P⟩ := qv_get hI
  have F : qb_F qb_sm2 σ (ma_123_3 N x1 σ).2 := qe_123 (by omega)
  have P2 := qv_P2 F P
  obtain ⟨τ, eτ⟩ : ∃ τ, τ = (ma_123_3 N x1 σ).2 := ⟨_, rfl⟩
  rw [← eτ] at P2 ⊢
  have n7 := B.1
  have t6 := B.2.1
  unfold ma_123_3 ma_235_99
  dsimp only [qa_in]
  rcases qw_w x1 with ⟨w1, w2, -⟩ | ⟨-, w1, w2⟩
  · rw [if_pos w1, if_pos w2, qb_9_2]; rfl
  rw [if_neg w1, if_neg w2]
  have V0 := qv_V0 (N := N) (by omega) B C
  have W0 := qv_W0 (N := N) (by omega) B P2
  have J0 : qs_J (2 * 0) (-9, 0) := ⟨Nat.le_refl 0, Or.inl ⟨rfl, rfl⟩⟩
  have A : ∃ m, qa_wh (fun s => s) (mc_123_3_p26 N x1) N ((0 : Int32), (-9 : Int32), (0 : Int32), ma_46_3 N σ) = (nI n, (qw_f (qs_H n t (qs_gl n s T) s T o b) n (-9, 0)).1, nI (qw_f (qs_H n t (qs_gl n s T) s T o b) n (-9, 0)).2, m) ∧ qv_V n t (qs_gl n s T) s T o b m := by
    refine qw_ln (e := fun s => s) (step := mc_123_3_p26 N x1) (fun k a => qs_J (2 * k) a) (fun m => qv_V n t (qs_gl n s T) s T o b m) (fun k (a : Int32 × Nat) m => (nI k, a.1, nI a.2, m)) (fun a m => (nI n, a.1, nI a.2, m)) (qs_H n t (qs_gl n s T) s T o b) n (-9, 0) (ma_46_3 N σ) (by omega) J0 V0 (fun c a m hc hJ hm => ⟨?_, ?_⟩) (fun a m hJ hm => ?_)
    · obtain ⟨v, m', h1, h2⟩ := qs_h2 (N := N) (l1 := x1) (a := a) (by omega) B hm hc (by have := hJ.1; omega)
      refine ⟨m', ?_, h2⟩
      unfold mc_123_3_p26
      dsimp only [qa_in]
      rw [if_pos (qw_ltT hm.1.1 hc (by omega)), qb_n (k := c) (by omega), hm.1.2.2.1 c (by omega), h1, qb_s]
    · exact qs_HJ (by omega) (B.2.2.1 c (by omega)) hJ
    · unfold mc_123_3_p26
      dsimp only
      rw [if_neg (qw_ltF hm.1.1 (by omega))]
      exact ⟨m, rfl, hm⟩
  have D : ∃ m, qa_wh (fun s => s) (mc_235_99_p34 N x1) N ((0 : Int32), (0 : Int32), (-9 : Int32), ma_180_99 N (qa_u τ 99 9 0)) = (nI n, nI (qw_f (qs_H n t (qs_gl n s T) s T o b) n (-9, 0)).2, (qw_f (qs_H n t (qs_gl n s T) s T o b) n (-9, 0)).1, m) ∧ qv_W n t (qs_gl n s T) s T o b m := by
    refine qw_ln (e := fun s => s) (step := mc_235_99_p34 N x1) (fun k a => qs_J (2 * k) a) (fun m => qv_W n t (qs_gl n s T) s T o b m) (fun k (a : Int32 × Nat) m => (nI k, nI a.2, a.1, m)) (fun a m => (nI n, nI a.2, a.1, m)) (qs_H n t (qs_gl n s T) s T o b) n (-9, 0) (ma_180_99 N (qa_u τ 99 9 0)) (by omega) J0 W0 (fun c a m hc hJ hm => ⟨?_, ?_⟩) (fun a m hJ hm => ?_)
    · obtain ⟨v, m', h1, h2⟩ := qs_h4 (N := N) (l1 := x1) (a := a) (by omega) B hm hc hJ (by omega)
      refine ⟨m', ?_, h2⟩
      unfold mc_235_99_p34
      dsimp only [qa_in]
      rw [if_pos (qw_ltT hm.1.1 hc (by omega)), h1, qb_s]
    · exact qs_HJ (by omega) (B.2.2.1 c (by omega)) hJ
    · unfold mc_235_99_p34
      dsimp only
      rw [if_neg (qw_ltF hm.1.1 (by omega))]
      exact ⟨m, rfl, hm⟩
  obtain ⟨m1, e1, -⟩ := A
  obtain ⟨m2, e2, -⟩ := D
  rw [e1, e2]
end Q9
