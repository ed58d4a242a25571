/-! PAIRS OF CASKS; nearest, exact, rank, loner -/
section Q6
variable {n t : Nat} {s : Nat → Nat} {T : Nat → Nat → Nat} {o b : Nat → Nat} {σ τ : qa_S} {N : Nat}
/-! exact -/
theorem qw_f4 {A : Type} (G : Nat → A → A) (a : A) : ∀ n, qw_f G (4 * n) a = qw_f (fun c x => qw_f (fun m y => G (4 * c + m) y) 4 x) n a := by
  intro n
  induction n with
  | zero => rfl
  | succ n ih =>
    show G (4 * n + 3) (G (4 * n + 2) (G (4 * n + 1) (G (4 * n) (qw_f G (4 * n) a)))) = _
    rw [ih]
    rfl
def qs_ex (o b : Nat) (x : Nat → Nat) (m : Nat) : Bool := o.testBit m && (qs_tl b (x m) == x m)
theorem qw_r4 : ∀ i, i < 28 → nI i - nI i / 4 * 4 = nI (i % 4) := by decide
theorem qc_129 {xx yy : Prop} (hN : 5000 ≤ N) (hI : qb_I xx yy σ) (x1 : Int32) : (ma_129_3 N x1 σ).1 = (ma_239_99 N x1 (ma_129_3 N x1 σ).2).1 := by
  obtain ⟨n, t, s, T, o, b, B, C, P⟩ := qv_get hI
  have F : qb_F qb_sm2 σ (ma_129_3 N x1 σ).2 := mf_129_3 qb_hw (qb_hm (by omega)) qb_Fr
  suffices h : ∃ v, (ma_129_3 N x1 σ).1 = v ∧ ∀ τ, qv_P n t s T o b (qa_u τ 99 9 0) → (ma_239_99 N x1 τ).1 = v by
    obtain ⟨v, h1, h2⟩ := h
    exact h1.trans (h2 _ (qv_P2 F P)).symm
  have n7 := B.1
  unfold ma_129_3 ma_239_99
  dsimp only [qa_in]
  rcases qw_t B.2.1 x1 with ⟨h1, h2⟩ | ⟨i, hi, rfl, h1, h2⟩
  · rw [if_pos (h1 σ C.2.1), qb_9_1]
    exact ⟨_, rfl, fun τ hP => by rw [if_pos (h2 _ hP.2.1)]; rfl⟩
  rw [if_neg (h1 σ C.2.1)]
  dsimp only
  have i6 : i < 6 := by have := B.2.1; omega
  obtain ⟨o15, b9⟩ := B.2.2.2.2 i i6
  have L1 : qa_wh (fun s => s) (mc_129_3_p21 N (nI i) σ) N ((0 : Int32), (0 : Int32)) = (nI n, nI (qw_f (fun c (a : Nat) => qw_f (fun m (a : Nat) => if qs_ex (o i) (b i) (T c) m then a + 1 else a) 4 a) n 0)) := by
    refine qw_lp (e := fun s => s) (fun k (a : Nat) => (nI k, nI a)) (fun a => (nI n, nI a)) (fun c (a : Nat) => qw_f (fun m (a : Nat) => if qs_ex (o i) (b i) (T c) m then a + 1 else a) 4 a) n 0 (by omega) (fun c a hc => ?_) (fun a => ?_)
    · unfold mc_129_3_p21
      dsimp only [qa_in]
      have Z : qa_wh (fun s => s) (mc_129_3_p35 N (nI i) (nI c) σ) N ((0 : Int32), nI a) = (nI 4, nI (qw_f (fun m (a : Nat) => if qs_ex (o i) (b i) (T c) m then a + 1 else a) 4 a)) := by
        refine qw_lp (e := fun s => s) (fun k (a : Nat) => (nI k, nI a)) (fun a => (nI 4, nI a)) (fun m (a : Nat) => if qs_ex (o i) (b i) (T c) m then a + 1 else a) 4 a (by omega) (fun m a hm => ?_) (fun a => ?_)
        · unfold mc_129_3_p35
          dsimp only
          have h9 := B.2.2.2.1 c m hc hm
          rw [if_pos (show nI m < (4 : Int32) from qb_ltT (b := 4) hm (by omega)), qb_n (k := i) (by omega), qb_n (k := c) (by omega), qb_n (k := m) (by omega), (C.2.2.2.2 i i6).1, (C.2.2.2.2 i i6).2, C.2.2.2.1 c m hc hm, qs_50 (by omega) b9, qs_48 (o i) (by omega) m (by omega), qb_s, qb_s]
          have e := qs_eqi (a := qs_tl (b i) (T c m)) (b := T c m) (Nat.lt_of_le_of_lt qs_tlle (by omega)) (by omega)
          unfold qs_ex
          cases (o i).testBit m
          · rfl
          · rw [if_neg (by decide)]
            by_cases c1 : nI (qs_tl (b i) (T c m)) = nI (T c m)
            · rw [if_pos c1, e.mp c1]; rfl
            · rw [if_neg c1, Bool.eq_false_iff.mpr (fun c => c1 (e.mpr c))]; rfl
        · unfold mc_129_3_p35
          dsimp only
          rw [if_neg (show ¬ nI 4 < (4 : Int32) by decide)]
      rw [C.1, if_pos (qb_ltT hc (by omega)), Z, qb_s]
    · unfold mc_129_3_p21
      dsimp only
      rw [C.1, if_neg (qb_ltF (Nat.le_refl n) (by omega))]
  rw [L1]
  refine ⟨_, rfl, fun τ hP => ?_⟩
  have R := (qv_181 (N := N) (by omega) n7 hP).1
  rw [if_neg (h2 _ hP.2.1)]
  dsimp only
  obtain ⟨ρ, eρ⟩ : ∃ ρ, ρ = ma_181_99 N (qa_u τ 99 9 0) := ⟨_, rfl⟩
  rw [← eρ] at R ⊢
  have L2 : qa_wh (fun s => s) (mc_239_99_p27 N (nI i) ρ) N ((0 : Int32), (0 : Int32)) = (nI (4 * n), nI (qw_f (fun k (a : Nat) => if qs_ex (o i) (b i) (T (k / 4)) (k % 4) then a + 1 else a) (4 * n) 0)) := by
    refine qw_lp (e := fun s => s) (fun k (a : Nat) => (nI k, nI a)) (fun a => (nI (4 * n), nI a)) (fun k (a : Nat) => if qs_ex (o i) (b i) (T (k / 4)) (k % 4) then a + 1 else a) (4 * n) 0 (by omega) (fun k a hk => ?_) (fun a => ?_)
    · unfold mc_239_99_p27
      dsimp only
      have hc : k / 4 < n := by omega
      have hm : k % 4 < 4 := by omega
      have hT := R.2.2.2.2 (k / 4) (k % 4) hc hm
      rw [show 4 * (k / 4) + k % 4 = k by omega] at hT
      have h9 := B.2.2.2.1 (k / 4) (k % 4) hc hm
      rw [R.1, show (4 : Int32) * nI n = nI (4 * n) from qw_mul (a := 4), if_pos (qb_ltT hk (by omega)), qb_n (k := i) (by omega), qb_n (k := k) (by omega), (R.2.2.2.1 i i6).1, hT, qs_186 (by rw [qb_n (by omega)]; exact (R.2.2.2.1 i i6).2) (by omega) b9, qw_r4 k (by omega), qs_185 (o i) (by omega) (k % 4) (by omega), qb_s]
      have e := qs_eqi (a := qs_tl (b i) (T (k / 4) (k % 4))) (b := T (k / 4) (k % 4)) (Nat.lt_of_le_of_lt qs_tlle (by omega)) (by omega)
      unfold qs_ex
      cases (o i).testBit (k % 4)
      · exact congrArg (fun x => Sum.inl (nI (k + 1), x)) (Int32.add_zero (nI a))
      · rw [if_neg (by decide)]
        by_cases c1 : nI (qs_tl (b i) (T (k / 4) (k % 4))) = nI (T (k / 4) (k % 4))
        · rw [if_pos c1, e.mp c1, qb_s]; rfl
        · rw [if_neg c1, Bool.eq_false_iff.mpr (fun c => c1 (e.mpr c)), Int32.add_zero]; rfl
    · unfold mc_239_99_p27
      dsimp only
      rw [R.1, show (4 : Int32) * nI n = nI (4 * n) from qw_mul (a := 4), if_neg (qb_ltF (Nat.le_refl _) (by omega))]
  rw [L2]
  dsimp only
  rw [qw_f4]
  refine congrArg nI (qw_fx (fun c a hc => qw_fx (fun m x hm => ?_)))
  rw [show (4 * c + m) / 4 = c by omega, show (4 * c + m) % 4 = m by omega]
/-! rank -/
end Q6
