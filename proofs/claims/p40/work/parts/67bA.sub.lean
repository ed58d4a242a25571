/-! substitutes, bluntest, diluted -/
section QA
variable {n t : Nat} {x s : Nat → Nat} {T : Nat → Nat → Nat} {o b : Nat → Nat} {σ τ : qa_S} {N : Nat}
/-! diluted -/
theorem qs_sm0 {f g : Nat → Nat} : ∀ n, qs_sm f n = 0 → qs_sm (fun c => f c * g c) n = 0 := by
  intro n
  induction n with
  | zero => intro _; rfl
  | succ n ih =>
    intro h
    have h' : qs_sm f n + f n = 0 := h
    show qs_sm (fun c => f c * g c) n + f n * g n = 0
    rw [ih (by omega), show f n = 0 by omega, Nat.zero_mul]
theorem qc_124 {xx yy : Prop} (hN : 5000 ≤ N) (hI : qb_I xx yy σ) (hz : ∀ m, m < 4 → σ 96 m = 0) (x1 : Int32) : (ma_124_3 N x1 σ).1 = (ma_236_99 N x1 (ma_124_3 N x1 σ).2).1 := by
  obtain ⟨n, t, s, T, o, b, B, C, P⟩ := qv_get hI
  have F : qb_F qb_sm2 σ (ma_124_3 N x1 σ).2 := mf_124_3 qb_hw (qb_hm (by omega)) qb_Fr
  suffices h : ∀ τ, qv_P n t s T o b (qa_u τ 99 9 0) → (ma_124_3 N x1 σ).1 = (ma_236_99 N x1 τ).1 from h _ (qv_P2 F P)
  intro τ hP
  have n7 := B.1
  unfold ma_124_3 ma_236_99
  dsimp only [qa_in]
  rcases qw_t B.2.1 x1 with ⟨h1, h2⟩ | ⟨i, hi, rfl, h1, h2⟩
  · rw [if_pos (h1 σ C.2.1), qb_9_1, if_pos (h2 _ hP.2.1)]; rfl
  rw [if_neg (h1 σ C.2.1), if_neg (h2 _ hP.2.1)]
  have i6 : i < 6 := by have := B.2.1; omega
  obtain ⟨o15, b9⟩ := B.2.2.2.2 i i6
  have s9 : ∀ c, c < n → s c ≤ 9 := fun c hc => B.2.2.1 c (by omega)
  have A : qw_st (fun k => qs_ap (o i) (b i) (qs_mx n s T k) (fun _ => 0) = false) 100 (fun k => nI k) (-9) (qa_cs (qa_wh (fun s => Sum.inr s) (mc_124_3_p19 N (nI i)) N (0, σ)) (fun b4 => (b4.1, b4.2)) (fun b4 => (-9, b4.2))).1 := by
    refine qw_lg (e := fun s => Sum.inr s) (step := mc_124_3_p19 N (nI i)) (fun m => qv_C n t s T o b m ∧ ∀ j, j < 4 → m 96 j = 0) (fun k => qs_ap (o i) (b i) (qs_mx n s T k) (fun _ => 0) = false) (fun k m => (nI k, m)) (fun k => nI k) (-9) (fun z => (qa_cs z (fun (b4 : Int32 × qa_S) => (b4.1, b4.2)) (fun (b4 : Int32 × qa_S) => ((-9 : Int32), b4.2))).1) 100 σ (by omega) ⟨C, hz⟩ (fun k m hk hm => ?_) (fun m hm => ⟨_, by unfold mc_124_3_p19; rw [if_pos (show (99 : Int32) < nI 100 by decide)], rfl⟩)
    obtain ⟨Cm, zm⟩ := hm
    obtain ⟨q1, F1⟩ := qs_47 (N := N) (S0 := -1) (w := k) (a4 := 95) (l1 := 7) (e := fun _ => true) (s1 := s) (by omega) B Cm (by omega) (Or.inr rfl) (Or.inl rfl) (fun k hk => ⟨Cm.2.2.1 k (by omega), by have := s9 k hk; omega⟩) (fun k hk => qs_48e k (by omega))
    have C1 := qv_CF F1 (fun a j h c => by omega) Cm n7
    have z1 : ∀ j, j < 4 → ma_47_4 N 7 (-1) (nI k) 95 m 96 j = 0 := fun j hj => (F1 96 j (by omega)).trans (zm j hj)
    unfold mc_124_3_p19
    dsimp only [qa_in]
    rw [if_neg (show ¬ 99 < nI k from qb_ltF (a := 99) (by omega) (by omega)), qs_53 (x := qs_mx n s T k) (y := fun _ => 0) (by omega) B C1 i6 (fun m hm => ⟨q1 m hm, (qs_mxl n7 (fun c hc => by have := s9 c hc; omega) (fun c hc => B.2.2.2.1 c m hc hm)).2.2⟩) (fun m hm => ⟨z1 m hm, by omega⟩), qb_s]
    cases h : qs_ap (o i) (b i) (qs_mx n s T k) (fun _ => 0)
    · exact Or.inr ⟨rfl, _, by rw [if_pos qs_b0], rfl⟩
    · exact Or.inl ⟨(fun h => by cases h), _, by rw [if_neg qs_b1], C1, z1⟩
  have R := (qv_181 (N := N) (by omega) n7 hP).1
  obtain ⟨ρ, eρ⟩ : ∃ ρ, ρ = ma_181_99 N (qa_u τ 99 9 0) := ⟨_, rfl⟩
  rw [← eρ] at R ⊢
  have L1 : qa_wh (fun s => s) (mc_236_99_p27 N (nI i) ρ) N ((0 : Int32), (0 : Int32)) = (nI n, nI (qs_sm s n)) := by
    refine qw_lp (e := fun s => s) (fun j (a : Nat) => (nI j, nI a)) (fun a => (nI n, nI a)) (fun c a => a + s c) n 0 (N := N) (by omega) (fun j a hj => ?_) (fun a => ?_)
    · unfold mc_236_99_p27
      dsimp only
      rw [R.1, if_pos (qb_ltT hj (by omega)), qb_n (k := j) (by omega), R.2.2.1 j (by omega), qb_s, qw_add]
    · unfold mc_236_99_p27
      dsimp only
      rw [R.1, if_neg (qb_ltF (Nat.le_refl n) (by omega))]
  rw [L1]
  dsimp only
  have D : qw_st (fun k => qs_ap (o i) (b i) (qs_mx n s T k) (fun _ => 0) = false) 100 (fun k => nI k) (-9) (qa_cs (qa_wh (fun s => Sum.inr s) (mc_236_99_p52 N (nI i) (nI (qs_sm s n)) ρ) N 0) (fun b7 => (b7, ρ)) (fun b7 => (-9, ρ))).1 := by
    refine qw_lf (e := fun s => Sum.inr s) (step := mc_236_99_p52 N (nI i) (nI (qs_sm s n)) ρ) (fun k => qs_ap (o i) (b i) (qs_mx n s T k) (fun _ => 0) = false) (fun k => nI k) (fun k => nI k) (-9) (fun z => (qa_cs z (fun b4 => (b4, ρ)) (fun b4 => ((-9 : Int32), ρ))).1) 100 (by omega) (fun k hk => ?_) ⟨_, by unfold mc_236_99_p52; rw [if_pos (show (99 : Int32) < nI 100 by decide)], rfl⟩
    have Z : qa_wh (fun s => s) (mc_236_99_p64 N (nI i) (nI (qs_sm s n)) (nI k) ρ) N ((0 : Int32), (1 : Int32)) = (nI 4, if qs_ap (o i) (b i) (qs_mx n s T k) (fun _ => 0) then (0 : Int32) else 1) := by
      refine qw_lp (e := fun s => s) (fun j (a : Bool) => (nI j, if a then (0 : Int32) else 1)) (fun a => (nI 4, if a then (0 : Int32) else 1)) (fun m a => a || qs_u (o i) (b i) (qs_mx n s T k) (fun _ => 0) m) 4 false (by omega) (fun m a hm => ?_) (fun a => ?_)
      · have L : qa_wh (fun s => s) (mc_236_99_p76 N (nI i) (nI (qs_sm s n)) (nI k) (if a then (0 : Int32) else 1) (nI m) ρ) N ((0 : Int32), (0 : Int32)) = (nI n, nI (qs_sm (fun c => s c * T c m) n)) := by
          refine qw_lp (e := fun s => s) (fun j (a : Nat) => (nI j, nI a)) (fun a => (nI n, nI a)) (fun c a => a + s c * T c m) n 0 (N := N) (by omega) (fun j a hj => ?_) (fun a => ?_)
          · unfold mc_236_99_p76
            dsimp only
            rw [R.1, if_pos (qb_ltT hj (by omega)), qb_n (k := j) (by omega), qb_i4 j (by omega) m hm, R.2.2.1 j (by omega), R.2.2.2.2 j m hj hm, qb_s, qw_mul, qw_add]
          · unfold mc_236_99_p76
            dsimp only
            rw [R.1, if_neg (qb_ltF (Nat.le_refl n) (by omega))]
        obtain ⟨b1, b2, b3⟩ := qs_mxl (w := k) (m := m) (s := s) (T := T) n7 (fun c hc => by have := s9 c hc; omega) (fun c hc => B.2.2.2.1 c m hc hm)
        unfold mc_236_99_p64
        dsimp only [qa_in]
        rw [if_pos (show nI m < (4 : Int32) from qb_ltT (b := 4) hm (by omega)), L, qb_n (k := i) (by omega), (R.2.2.2.1 i i6).1, qs_185 (o i) (by omega) m (by omega), qw_add, qb_s]
        dsimp only
        have t0 : qs_tl (b i) 0 = 0 := by unfold qs_tl; rw [Nat.zero_div, Nat.zero_mul]
        unfold qs_u
        rw [t0]
        cases a
        · have k1 : ¬ (if false = true then (0 : Int32) else 1) = 0 := by decide
          rw [if_neg k1]
          cases (o i).testBit m
          · rfl
          · rw [if_neg qs_b1]
            by_cases z : qs_sm s n = 0
            · rw [z, if_pos (show nI 0 = 0 from rfl)]
              have : qs_mx n s T k m = 0 := by unfold qs_mx; rw [qs_sm0 n z, Nat.zero_div]
              rw [this, t0]
              rfl
            · rw [if_neg (fun e => z ((qw_z (by omega)).mp e)), qw_div (by omega) (by omega) (by omega)]
              have e : qs_sm (fun c => s c * T c m) n / (qs_sm s n + k) = qs_mx n s T k m := by unfold qs_mx; rw [Nat.add_comm]
              rw [e, qs_186 (by rw [qb_n (by omega)]; exact (R.2.2.2.1 i i6).2) b3 b9]
              have tl := qs_tlle (b := b i) (x := qs_mx n s T k m)
              by_cases w : qs_tl (b i) (qs_mx n s T k m) = 0
              · rw [w]; rfl
              · rw [if_neg (fun e => w ((qw_z (by omega)).mp e)), beq_eq_false_iff_ne.mpr w]; rfl
        · rfl
      · unfold mc_236_99_p64
        dsimp only
        rw [if_neg (show ¬ nI 4 < (4 : Int32) by decide)]
    unfold mc_236_99_p52
    dsimp only [qa_in]
    rw [if_neg (show ¬ 99 < nI k from qb_ltF (a := 99) (by omega) (by omega)), Z, qb_s]
    cases h : qs_ap (o i) (b i) (qs_mx n s T k) (fun _ => 0)
    · exact Or.inr ⟨rfl, _, by rw [if_neg (by decide)], rfl⟩
    · exact Or.inl ⟨(fun h => by cases h), by rw [if_pos (by rfl)]⟩
  exact qw_stU A D (fun _ _ => Iff.rfl) (fun _ _ _ => rfl) rfl
end QA
