/-! the row: impostor, judge, two -/
def qv_rw (k : Nat) (r : Nat → Nat) (σ : qa_S) : Prop := σ 3 16 = nI k ∧ ∀ i, i < 12 → σ 92 i = nI (r i)
def qv_rx (k : Nat) (r : Nat → Nat) (τ : qa_S) : Prop := τ 99 35 = nI k ∧ ∀ i, i < 12 → τ 122 i = nI (r i)
theorem qv_row {xx yy : Prop} {σ : qa_S} (hI : qb_I xx yy σ) (hr : ∀ i, i < 12 → 0 ≤ (σ 92 i).toInt ∧ (σ 92 i).toInt ≤ 99) : ∃ (k : Nat) (r : Nat → Nat), k ≤ 12 ∧ (∀ i, i < 12 → r i ≤ 99) ∧ qv_rw k r σ ∧ qv_rx k r σ := by
  obtain ⟨⟨k, k12, hk⟩, h2, h3⟩ := hI.2.2.2.2.1
  refine ⟨k, fun i => (σ 92 i).toNatClampNeg, k12, fun i hi => ?_, ⟨hk, fun i hi => (qw_nn (hr i hi)).1⟩, h2.symm.trans hk, fun i hi => ?_⟩
  · have := (qw_nn (hr i hi)).2; dsimp only; omega
  · rw [← h3 i hi]; exact (qw_nn (hr i hi)).1
section QC
variable {n t : Nat} {x s : Nat → Nat} {T : Nat → Nat → Nat} {o b : Nat → Nat} {σ τ : qa_S} {N : Nat}
theorem qv_rF {w : Nat → Nat → Prop} {k : Nat} {r : Nat → Nat} (h : qb_F w σ τ) (hw : ∀ a j, (a = 99 ∧ j = 35) ∨ a = 122 → ¬ w a j) (hr : qv_rx k r σ) : qv_rx k r τ := ⟨(h _ _ (hw _ _ (by omega))).trans hr.1, fun i hi => (h _ _ (hw _ _ (by omega))).trans (hr.2 i hi)⟩
theorem qw_stx {B : Type} {p q : Nat → Prop} {n : Nat} {X X' : Nat → B} {Y v : B} (h : qw_st p n X Y v) (hp : ∀ k, k < n → (p k ↔ q k)) (hX : ∀ k, k < n → X k = X' k) : qw_st q n X' Y v := by
  rcases h with ⟨k, k1, k2, k3, k4⟩ | ⟨k1, k2⟩
  · exact Or.inl ⟨k, k1, (hp k k1).mp k2, fun j hj c => k3 j hj ((hp j (by omega)).mpr c), k4.trans (hX k k1)⟩
  · exact Or.inr ⟨fun j hj c => k1 j hj ((hp j hj).mpr c), k2⟩
theorem qw_fp {A B : Type} {f : Nat → A → A} {g : Nat → B → B} {x : A} {y : B} : ∀ n, qw_f (fun k (a : A × B) => (f k a.1, g k a.2)) n (x, y) = (qw_f f n x, qw_f g n y) := by
  intro n
  induction n with
  | zero => rfl
  | succ n ih =>
    show (f n _, g n _) = _
    rw [ih]
    rfl
theorem qc_110 {xx yy : Prop} (hN : 5000 ≤ N) (hI : qb_I xx yy σ) (hr : ∀ i, i < 12 → 0 ≤ (σ 92 i).toInt ∧ (σ 92 i).toInt ≤ 99) (x1 x2 : Int32) : (ma_110_3 N x1 x2 σ).1 = (ma_225_99 N x1 x2 (ma_110_3 N x1 x2 σ).2).1 := by
  obtain ⟨n, t, s, T, o, b, B, C, P⟩ := qv_get hI
  obtain ⟨k, r, k12, r99, rw1, rx1⟩ := qv_row hI hr
  have F : qb_F qb_sm2 σ (ma_110_3 N x1 x2 σ).2 := mf_110_3 qb_hw (qb_hm (by omega)) qb_Fr
  suffices h : ∀ τ, qv_P n t s T o b (qa_u τ 99 9 0) → qv_rx k r (qa_u τ 99 9 0) → (ma_110_3 N x1 x2 σ).1 = (ma_225_99 N x1 x2 τ).1 from h _ (qv_P2 F P) (qv_rF (qb_Fu (w := fun a j => a = 99 ∧ j = 9) ⟨rfl, rfl⟩) (fun a j h c => by omega) (qv_rF F (fun a j h c => by unfold qb_sm2 qb_sc at c; omega) rx1))
  intro τ hP hR
  have n7 := B.1
  unfold ma_110_3 ma_225_99
  dsimp only [qa_in]
  rcases qw_t B.2.1 x1 with ⟨h1, h2⟩ | ⟨i, hi, rfl, h1, h2⟩
  · have e : (if ma_171_99 x1 (qa_u τ 99 9 0) = 0 then (-1 : Int32) else if ma_158 x2.toInt64 0 1 = 0 then -2 else if qa_u τ 99 9 0 99 35 = 4 then 0 else -3) = -1 := if_pos (h2 _ hP.2.1)
    rw [if_pos (h1 σ C.2.1), qb_9_1, e, if_pos (by decide)]; rfl
  rw [if_neg (h1 σ C.2.1)]
  rcases qw_w x2 with ⟨w1, w2, -⟩ | ⟨-, w1, w2⟩
  · have e : (if ma_171_99 (nI i) (qa_u τ 99 9 0) = 0 then (-1 : Int32) else if ma_158 x2.toInt64 0 1 = 0 then -2 else if qa_u τ 99 9 0 99 35 = 4 then 0 else -3) = -2 := by rw [if_neg (h2 _ hP.2.1), if_pos w2]
    rw [if_pos w1, qb_9_2, e, if_pos (by decide)]; rfl
  rw [if_neg w1]
  have k4 : (nI k = 4) ↔ k = 4 := qb_eq (b := 4) (by omega) (by omega)
  by_cases z : k = 4
  · have e : (if ma_171_99 (nI i) (qa_u τ 99 9 0) = 0 then (-1 : Int32) else if ma_158 x2.toInt64 0 1 = 0 then -2 else if qa_u τ 99 9 0 99 35 = 4 then 0 else -3) = 0 := by rw [if_neg (h2 _ hP.2.1), if_neg w2, hR.1, if_pos (k4.mpr z)]
    rw [rw1.1, if_pos (k4.mpr z), e, if_neg (by decide)]
    have i6 : i < 6 := by have := B.2.1; omega
    obtain ⟨o15, b9⟩ := B.2.2.2.2 i i6
    obtain ⟨q1, F1⟩ := qs_46 (N := N) (by omega) B C
    have C1 := qv_CF F1 (fun a j h c => by omega) C n7
    have row1 : ∀ m, m < 4 → ma_46_3 N σ 92 m = nI (r m) := fun m hm => (F1 92 m (by omega)).trans (rw1.2 m (by omega))
    obtain ⟨σ1, eσ⟩ : ∃ σ1, σ1 = ma_46_3 N σ := ⟨_, rfl⟩
    rw [← eσ] at q1 C1 row1 ⊢
    obtain ⟨p0, ep0⟩ : ∃ p0 : Nat → Bool, p0 = fun m => (o i).testBit m && !(r m == qs_tl (b i) (qs_gl n s T m)) := ⟨_, rfl⟩
    obtain ⟨p1, ep1⟩ : ∃ p1 : Nat → Bool, p1 = fun m => !(o i).testBit m && !(r m == 0) := ⟨_, rfl⟩
    have gl := fun m hm => qs_gll (m := m) B hm
    have A : qw_st (fun m => (if x2 = 0 then p0 m else p1 m) = true) 4 (fun m => nI m) (-9) (qa_cs (qa_wh (fun s => Sum.inr s) (mc_110_3_p52 N (nI i) x2 σ1) N 0) (fun b8 => (b8, σ1)) (fun b8 => (-9, σ1))).1 := by
      refine qw_lf (e := fun s => Sum.inr s) (step := mc_110_3_p52 N (nI i) x2 σ1) (fun m => (if x2 = 0 then p0 m else p1 m) = true) (fun k => nI k) (fun c => nI c) (-9) (fun z => (qa_cs z (fun b4 => (b4, σ1)) (fun b4 => ((-9 : Int32), σ1))).1) 4 (by omega) (fun m hm => ?_) ⟨_, by unfold mc_110_3_p52; rw [if_neg (show ¬ nI 4 < (4 : Int32) by decide)], rfl⟩
      have rm := r99 m (by omega)
      have tlm := Nat.lt_of_le_of_lt (qs_tlle (b := b i) (x := qs_gl n s T m)) (gl m hm)
      unfold mc_110_3_p52
      rw [if_pos (show nI m < (4 : Int32) from qb_ltT (b := 4) hm (by omega)), qb_n (k := i) (by omega), qb_n (k := m) (by omega), (C1.2.2.2.2 i i6).1, (C1.2.2.2.2 i i6).2, row1 m hm, q1 m hm, qs_50 (gl m hm) b9, qs_48 (o i) (by omega) m (by omega), qb_s, ep0, ep1]
      dsimp only
      have e := qs_eqi (a := r m) (b := qs_tl (b i) (qs_gl n s T m)) (by omega) tlm
      by_cases w : x2 = 0
      · rw [if_pos w, if_pos w]
        cases h1 : (o i).testBit m
        · rw [if_pos (by rfl)]
          exact Or.inl ⟨Bool.false_ne_true, rfl⟩
        · rw [if_neg qs_b1]
          by_cases c1 : nI (r m) = nI (qs_tl (b i) (qs_gl n s T m))
          · rw [if_pos c1, if_pos rfl, e.mp c1]
            exact Or.inl ⟨Bool.false_ne_true, rfl⟩
          · rw [if_neg c1, if_neg (by decide), Bool.eq_false_iff.mpr (fun c => c1 (e.mpr c))]
            exact Or.inr ⟨rfl, _, rfl, rfl⟩
      · rw [if_neg w, if_neg w]
        cases h1 : (o i).testBit m
        · rw [if_pos qs_b0]
          by_cases c1 : r m = 0
          · rw [if_pos ((qw_z (by omega)).mpr c1), if_pos rfl, c1]
            exact Or.inl ⟨Bool.false_ne_true, rfl⟩
          · rw [if_neg (fun e => c1 ((qw_z (by omega)).mp e)), if_neg (by decide), beq_eq_false_iff_ne.mpr c1]
            exact Or.inr ⟨rfl, _, rfl, rfl⟩
        · rw [if_neg qs_b1, if_pos rfl]
          exact Or.inl ⟨Bool.false_ne_true, rfl⟩
    obtain ⟨R, -, g2, F2⟩ := qs_180 (N := N) (by omega) B hP
    have hR2 := qv_rF F2 (fun a j h c => by omega) hR
    obtain ⟨ρ, eρ⟩ : ∃ ρ, ρ = ma_180_99 N (qa_u τ 99 9 0) := ⟨_, rfl⟩
    rw [← eρ] at R g2 hR2 ⊢
    have D : qa_wh (fun s => s) (mc_225_99_p72 N (nI i) x2 ρ) N ((3 : Int32), (-9 : Int32), (-9 : Int32)) = (-1, qw_f (fun k (a : Int32) => if p0 (3 - k) then nI (3 - k) else a) 4 (-9), qw_f (fun k (a : Int32) => if p1 (3 - k) then nI (3 - k) else a) 4 (-9)) := by
      have h := qw_lp (e := fun s => s) (step := mc_225_99_p72 N (nI i) x2 ρ) (N := N) (fun k (a : Int32 × Int32) => (if k < 4 then nI (3 - k) else -1, a)) (fun a => (-1, a)) (fun k (a : Int32 × Int32) => (if p0 (3 - k) then nI (3 - k) else a.1, if p1 (3 - k) then nI (3 - k) else a.2)) 4 (-9, -9) (by omega) (fun k a hk => ?_) (fun a => ?_)
      · refine Eq.trans h ?_
        exact congrArg (fun z => ((-1 : Int32), z)) (qw_fp 4)
      · have hm : 3 - k < 4 := by omega
        have rm := r99 (3 - k) (by omega)
        have tlm := Nat.lt_of_le_of_lt (qs_tlle (b := b i) (x := qs_gl n s T (3 - k))) (gl (3 - k) hm)
        have ek : (if k + 1 < 4 then nI (3 - (k + 1)) else -1) = nI (3 - k) + -1 := by
          have : ∀ k, k < 4 → (if k + 1 < 4 then nI (3 - (k + 1)) else -1) = nI (3 - k) + -1 := by decide
          exact this k hk
        rw [ek, if_pos hk]
        unfold mc_225_99_p72
        dsimp only
        rw [if_neg (qw_n0 (by omega)), qb_n (k := i) (by omega), qb_n (k := 3 - k) (by omega), (R.2.2.2.1 i i6).1, g2 (3 - k) hm, hR2.2 (3 - k) (by omega), qs_186 (by rw [qb_n (by omega)]; exact (R.2.2.2.1 i i6).2) (gl (3 - k) hm) b9, qs_185 (o i) (by omega) (3 - k) (by omega), ep0, ep1]
        dsimp only
        have e := qs_eqi (a := r (3 - k)) (b := qs_tl (b i) (qs_gl n s T (3 - k))) (by omega) tlm
        have k1 : ¬ (1 : Int32) = 0 := by decide
        by_cases h1 : (o i).testBit (3 - k) = true
        · simp only [h1, ↓reduceIte, if_neg k1, Bool.true_and, Bool.not_true, Bool.false_and, Bool.false_eq_true]
          by_cases c1 : nI (r (3 - k)) = nI (qs_tl (b i) (qs_gl n s T (3 - k)))
          · simp only [if_pos c1.symm, e.mp c1, Bool.not_true, Bool.false_eq_true, ↓reduceIte]
          · have c3 : ¬ nI (qs_tl (b i) (qs_gl n s T (3 - k))) = nI (r (3 - k)) := fun h => c1 h.symm
            simp only [if_neg c3, Bool.eq_false_iff.mpr (fun c => c1 (e.mpr c)), Bool.not_false, ↓reduceIte]
        · simp only [Bool.eq_false_iff.mpr h1, Bool.false_eq_true, ↓reduceIte, Bool.false_and, Bool.not_false, Bool.true_and]
          by_cases c1 : r (3 - k) = 0
          · have z0 : nI 0 = 0 := rfl
            simp only [c1, z0, beq_self_eq_true, Bool.not_true, Bool.false_eq_true, ↓reduceIte]
          · have c2 : ¬ nI (r (3 - k)) = 0 := fun e => c1 ((qw_z (by omega)).mp e)
            simp only [if_neg c2, beq_eq_false_iff_ne.mpr c1, Bool.not_false, ↓reduceIte]
      · unfold mc_225_99_p72
        dsimp only
        rw [if_pos (by decide)]
        rfl
    rw [D]
    dsimp only
    by_cases w : x2 = 0
    · rw [if_pos w]
      refine qs_last (p := fun v => p0 (3 - v)) (X := fun v => nI (3 - v)) 4 _ (qw_stx A (fun m hm => ?_) (fun m hm => ?_))
      · rw [if_pos w, show 3 - (4 - 1 - m) = m by omega]
      · rw [show 3 - (4 - 1 - m) = m by omega]
    · rw [if_neg w]
      refine qs_last (p := fun v => p1 (3 - v)) (X := fun v => nI (3 - v)) 4 _ (qw_stx A (fun m hm => ?_) (fun m hm => ?_))
      · rw [if_neg w, show 3 - (4 - 1 - m) = m by omega]
      · rw [show 3 - (4 - 1 - m) = m by omega]
  · have e : (if ma_171_99 (nI i) (qa_u τ 99 9 0) = 0 then (-1 : Int32) else if ma_158 x2.toInt64 0 1 = 0 then -2 else if qa_u τ 99 9 0 99 35 = 4 then 0 else -3) = -3 := by rw [if_neg (h2 _ hP.2.1), if_neg w2, hR.1, if_neg (fun e => z (k4.mp e))]
    rw [rw1.1, if_neg (fun e => z (k4.mp e)), qb_9_3, e, if_pos (by decide)]; rfl
end QC
