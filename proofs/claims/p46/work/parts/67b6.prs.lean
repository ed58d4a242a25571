/-! PAIRS OF CASKS; nearest, exact, rank, loner -/
section Q6
variable {n t : Nat} {s : Nat → Nat} {T : Nat → Nat → Nat} {o b : Nat → Nat} {σ τ : qa_S} {N : Nat}
/-! exact -/
/-! rank -/
def qs_wt (x : Nat → Nat) : Nat := x 0 + x 1 + x 2 + x 3
theorem qs_95 (hN : 5 ≤ N) (hB : qv_B n t s T o b) (hC : qv_C n t s T o b σ) {c : Nat} (hc : c < n) : ma_95_4 N (nI c) σ = nI (qs_wt (T c)) := by
  have n7 := hB.1
  unfold ma_95_4
  dsimp only [qa_in]
  refine (congrArg Prod.snd (qw_lp (e := fun s => s) (fun k (a : Nat) => (nI k, nI a)) (fun a => (nI 4, nI a)) (fun m a => a + T c m) 4 0 hN (fun k a hk => ?_) (fun a => ?_))).trans ?_
  · unfold mc_95_4_p4
    dsimp only
    rw [if_pos (show nI k < (4 : Int32) from qb_ltT (b := 4) hk (by omega)), qb_n (k := k) (by omega), qb_n (k := c) (by omega), hC.2.2.2.1 c k hc hk, qb_s, qw_add]
  · unfold mc_95_4_p4
    dsimp only
    rw [if_neg (show ¬ nI 4 < (4 : Int32) by decide)]
  · show nI (0 + T c 0 + T c 1 + T c 2 + T c 3) = _
    rw [Nat.zero_add]
    rfl
theorem qs_216 (hB : qv_B n t s T o b) (hR : qv_R n t s T o b τ) {c : Nat} (hc : c < n) : ma_216_99 (nI c) τ = nI (qs_wt (T c)) := by
  have n7 := hB.1
  have i : ∀ c, c < 7 → ((4 : Int32) * nI c).toNatClampNeg = 4 * c + 0 ∧ ((4 : Int32) * nI c + 1).toNatClampNeg = 4 * c + 1 ∧ ((4 : Int32) * nI c + 2).toNatClampNeg = 4 * c + 2 ∧ ((4 : Int32) * nI c + 3).toNatClampNeg = 4 * c + 3 := by decide
  obtain ⟨i0, i1, i2, i3⟩ := i c (by omega)
  unfold ma_216_99
  rw [i0, i1, i2, i3, hR.2.2.2.2 c 0 hc (by omega), hR.2.2.2.2 c 1 hc (by omega), hR.2.2.2.2 c 2 hc (by omega), hR.2.2.2.2 c 3 hc (by omega), qw_add, qw_add, qw_add]
  rfl
theorem qs_wtl (hB : qv_B n t s T o b) {c : Nat} (hc : c < n) : qs_wt (T c) ≤ 396 := by
  have h := fun m hm => hB.2.2.2.1 c m hc hm
  have h0 := h 0 (by omega)
  have h1 := h 1 (by omega)
  have h2 := h 2 (by omega)
  have h3 := h 3 (by omega)
  unfold qs_wt
  omega
def qs_st (T : Nat → Nat → Nat) (c k : Nat) : Bool := decide (qs_wt (T c) < qs_wt (T k)) || (qs_wt (T k) == qs_wt (T c) && decide (k < c))
theorem qc_133 {xx yy : Prop} (hN : 5000 ≤ N) (hI : qb_I xx yy σ) (x1 : Int32) : (ma_133_3 N x1 σ).1 = (ma_242_99 N x1 (ma_133_3 N x1 σ).2).1 := by
  obtain ⟨n, t, s, T, o, b, B, C, P⟩ := qv_get hI
  have F : qb_F qb_sm2 σ (ma_133_3 N x1 σ).2 := mf_133_3 qb_hw (qb_hm (by omega)) qb_Fr
  have P2 := qv_P2 F P
  obtain ⟨τ, eτ⟩ : ∃ τ, τ = (ma_133_3 N x1 σ).2 := ⟨_, rfl⟩
  rw [← eτ] at P2 ⊢
  have n7 := B.1
  unfold ma_133_3 ma_242_99
  dsimp only [qa_in]
  by_cases h0 : x1 < 0
  · rw [if_pos h0, if_pos h0, qb_9_4]
    rfl
  rw [if_neg h0, if_neg h0]
  have R := (qv_181 (N := N) (by omega) n7 P2).1
  obtain ⟨ρ, eρ⟩ : ∃ ρ, ρ = ma_181_99 N (qa_u τ 99 9 0) := ⟨_, rfl⟩
  rw [← eρ] at R ⊢
  have A : qw_st (fun c => nI (qs_ct (qs_st T c) n) = x1) n (fun c => nI c) (-9) (qa_cs (qa_wh (fun s => Sum.inr s) (mc_133_3_p13 N x1 σ) N 0) (fun b4 => (b4, σ)) (fun b4 => (-9, σ))).1 := by
    refine qw_lf (e := fun s => Sum.inr s) (step := mc_133_3_p13 N x1 σ) (fun c => nI (qs_ct (qs_st T c) n) = x1) (fun k => nI k) (fun c => nI c) (-9) (fun z => (qa_cs z (fun b4 => (b4, σ)) (fun b4 => ((-9 : Int32), σ))).1) n (by omega) (fun c hc => ?_) ⟨_, by unfold mc_133_3_p13; rw [C.1, if_neg (qb_ltF (Nat.le_refl n) (by omega))], rfl⟩
    have Z : ma_134_3 N (nI c) σ = nI (qs_ct (qs_st T c) n) := by
      unfold ma_134_3
      dsimp only [qa_in]
      refine congrArg Prod.snd (qw_lp (e := fun s => s) (fun k (a : Nat) => (nI k, nI a)) (fun a => (nI n, nI a)) (fun k a => if qs_st T c k then a + 1 else a) n 0 (by omega) (fun k a hk => ?_) (fun a => ?_))
      · unfold mc_134_3_p14
        dsimp only [qa_in]
        have w1 := qs_wtl B hc
        have w2 := qs_wtl B hk
        rw [C.1, if_pos (qb_ltT hk (by omega)), qs_95 (by omega) B C hc, qs_95 (by omega) B C hk, qb_s, qb_s]
        unfold qs_st
        by_cases c1 : qs_wt (T c) < qs_wt (T k)
        · rw [if_pos (qb_ltT c1 (by omega)), decide_eq_true c1]; rfl
        rw [if_neg (qb_ltF (by omega) (by omega)), decide_eq_false c1]
        by_cases c2 : qs_wt (T k) = qs_wt (T c)
        · rw [if_pos (congrArg nI c2), c2, beq_self_eq_true]
          by_cases c3 : k < c
          · rw [if_pos (qb_ltT c3 (by omega)), decide_eq_true c3]; rfl
          · rw [if_neg (qb_ltF (by omega) (by omega)), decide_eq_false c3]; rfl
        · rw [if_neg (fun e => c2 ((qb_eq (by omega) (by omega)).mp e)), beq_eq_false_iff_ne.mpr c2]; rfl
      · unfold mc_134_3_p14
        dsimp only
        rw [C.1, if_neg (qb_ltF (Nat.le_refl n) (by omega))]
    unfold mc_133_3_p13
    dsimp only [qa_in]
    rw [C.1, if_pos (qb_ltT hc (by omega)), Z, qb_s]
    by_cases c1 : nI (qs_ct (qs_st T c) n) = x1
    · exact Or.inr ⟨c1, _, by rw [if_pos c1], rfl⟩
    · exact Or.inl ⟨c1, by rw [if_neg c1]⟩
  have D : qw_st (fun c => nI (qs_ct (qs_st T c) n) = x1) n (fun c => nI c) (-9) (qa_cs (qa_wh (fun s => Sum.inr s) (mc_242_99_p22 N x1 ρ) N 0) (fun b6 => (b6, ρ)) (fun b6 => (-9, ρ))).1 := by
    refine qw_lf (e := fun s => Sum.inr s) (step := mc_242_99_p22 N x1 ρ) (fun c => nI (qs_ct (qs_st T c) n) = x1) (fun k => nI k) (fun c => nI c) (-9) (fun z => (qa_cs z (fun b4 => (b4, ρ)) (fun b4 => ((-9 : Int32), ρ))).1) n (by omega) (fun c hc => ?_) ⟨_, by unfold mc_242_99_p22; rw [R.1, if_neg (qb_ltF (Nat.le_refl n) (by omega))], rfl⟩
    have Z : qa_wh (fun s => s) (mc_242_99_p35 N x1 (nI c) ρ) N ((0 : Int32), (0 : Int32)) = (nI n, nI (qs_ct (qs_st T c) n)) := by
      refine qw_lp (e := fun s => s) (fun k (a : Nat) => (nI k, nI a)) (fun a => (nI n, nI a)) (fun k a => if qs_st T c k then a + 1 else a) n 0 (by omega) (fun k a hk => ?_) (fun a => ?_)
      · unfold mc_242_99_p35
        dsimp only
        have w1 := qs_wtl B hc
        have w2 := qs_wtl B hk
        rw [R.1, if_pos (qb_ltT hk (by omega)), qs_216 B R hc, qs_216 B R hk, qb_s]
        unfold qs_st
        by_cases c1 : qs_wt (T c) < qs_wt (T k)
        · rw [if_pos (qb_ltT c1 (by omega)), decide_eq_true c1, qb_s]; rfl
        rw [if_neg (qb_ltF (by omega) (by omega)), decide_eq_false c1]
        by_cases c2 : qs_wt (T k) = qs_wt (T c)
        · rw [if_pos (congrArg nI c2), c2, beq_self_eq_true]
          by_cases c3 : k < c
          · rw [if_pos (qb_ltT c3 (by omega)), decide_eq_true c3, qb_s]; rfl
          · rw [if_neg (qb_ltF (by omega) (by omega)), decide_eq_false c3, Int32.add_zero]; rfl
        · rw [if_neg (fun e => c2 ((qb_eq (by omega) (by omega)).mp e)), beq_eq_false_iff_ne.mpr c2, Int32.add_zero]; rfl
      · unfold mc_242_99_p35
        dsimp only
        rw [R.1, if_neg (qb_ltF (Nat.le_refl n) (by omega))]
    unfold mc_242_99_p22
    dsimp only [qa_in]
    rw [R.1, if_pos (qb_ltT hc (by omega)), Z, qb_s]
    by_cases c1 : nI (qs_ct (qs_st T c) n) = x1
    · exact Or.inr ⟨c1, _, by rw [if_pos c1], rfl⟩
    · exact Or.inl ⟨c1, by rw [if_neg c1]⟩
  exact qw_stU A D (fun _ _ => Iff.rfl) (fun _ _ _ => rfl) rfl
end Q6
