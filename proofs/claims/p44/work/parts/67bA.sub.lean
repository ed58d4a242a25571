/-! substitutes, bluntest, diluted -/
section QA
variable {n t : Nat} {x s : Nat → Nat} {T : Nat → Nat → Nat} {o b : Nat → Nat} {σ τ : qa_S} {N : Nat}
theorem qs_last {B : Type} {p : Nat → Bool} {X : Nat → B} {Y : B} : ∀ (n : Nat) (w : B), qw_st (fun k => p (n - 1 - k) = true) n (fun k => X (n - 1 - k)) Y w → w = qw_f (fun v a => if p v then X v else a) n Y := by
  intro n
  induction n with
  | zero => rintro w (⟨k, hk, -⟩ | ⟨-, h⟩)
            · omega
            · exact h
  | succ n ih =>
    intro w h
    show w = if p n then X n else qw_f (fun v a => if p v then X v else a) n Y
    by_cases c : p n = true
    · rw [if_pos c]
      rcases h with ⟨k, hk, k1, k2, k3⟩ | ⟨k1, k2⟩
      · by_cases e : k = 0
        · rw [k3, e]; rfl
        · exact absurd c (k2 0 (by omega))
      · exact absurd c (k1 0 (by omega))
    · rw [if_neg c]
      refine ih w ?_
      rcases h with ⟨k, hk, k1, k2, k3⟩ | ⟨k1, k2⟩
      · have k0 : k ≠ 0 := fun e => by rw [e] at k1; exact c k1
        refine Or.inl ⟨k - 1, by omega, ?_, fun j hj => ?_, ?_⟩
        · have : n - 1 - (k - 1) = n + 1 - 1 - k := by omega
          show p (n - 1 - (k - 1)) = true
          rw [this]; exact k1
        · have h2 : ¬ p (n + 1 - 1 - (j + 1)) = true := k2 (j + 1) (by omega)
          have e : n + 1 - 1 - (j + 1) = n - 1 - j := by omega
          rw [e] at h2; exact h2
        · have : n - 1 - (k - 1) = n + 1 - 1 - k := by omega
          show w = X (n - 1 - (k - 1))
          rw [this]; exact k3
      · refine Or.inr ⟨fun j hj => ?_, k2⟩
        have h2 : ¬ p (n + 1 - 1 - (j + 1)) = true := k1 (j + 1) (by omega)
        have e : n + 1 - 1 - (j + 1) = n - 1 - j := by omega
        rw [e] at h2; exact h2
theorem qv_Rb {i v : Nat} (hi : i < 6) (h : qv_R n t s T o b τ) : qv_R n t s T o (qs_up b i v) (qa_u τ 105 i (nI v)) := by
  have F : qb_F (fun a _ => a = 105) τ (qa_u τ 105 i (nI v)) := qb_Fu rfl
  refine ⟨(F _ _ (by omega)).trans h.1, (F _ _ (by omega)).trans h.2.1, fun c hc => (F _ _ (by omega)).trans (h.2.2.1 c hc), fun k hk => ⟨(F _ _ (by omega)).trans (h.2.2.2.1 k hk).1, ?_⟩, fun c m hc hm => (F _ _ (by omega)).trans (h.2.2.2.2 c m hc hm)⟩
  rw [qb_uJ]
  unfold qs_up
  by_cases e : k = i
  · rw [if_pos e, e, beq_self_eq_true]; rfl
  · rw [if_neg e, beq_eq_false_iff_ne.mpr e]; exact (h.2.2.2.1 k hk).2
theorem qv_Bb {i v : Nat} (hB : qv_B n t s T o b) (hv : v ≤ 9) : qv_B n t s T o (qs_up b i v) := ⟨hB.1, hB.2.1, hB.2.2.1, hB.2.2.2.1, fun k hk => ⟨(hB.2.2.2.2 k hk).1, by unfold qs_up; have := (hB.2.2.2.2 k hk).2; split <;> omega⟩⟩
theorem qs_upu {f : Nat → Nat} {i u v : Nat} : qs_up (qs_up f i u) i v = qs_up f i v := by
  funext k
  unfold qs_up
  cases k == i <;> rfl
theorem qc_130 {xx yy : Prop} (hN : 5000 ≤ N) (hI : qb_I xx yy σ) (x1 x2 x3 : Int32) : (ma_130_3 N x1 x2 x3 σ).1 = (ma_240_99 N x1 x2 x3 (ma_130_3 N x1 x2 x3 σ).2).1 := by
  obtain ⟨n, t, s, T, o, b, B, C, P⟩ := qv_get hI
  have F : qb_F qb_sm2 σ (ma_130_3 N x1 x2 x3 σ).2 := mf_130_3 qb_hw (qb_hm (by omega)) qb_Fr
  suffices h : ∀ τ, qv_P n t s T o b (qa_u τ 99 9 0) → (ma_130_3 N x1 x2 x3 σ).1 = (ma_240_99 N x1 x2 x3 τ).1 from h _ (qv_P2 F P)
  intro τ hP
  have n7 := B.1
  unfold ma_130_3 ma_240_99 ma_52_3
  dsimp only [qa_in]
  rcases qw_t B.2.1 x1 with ⟨h1, h2⟩ | ⟨i, hi, rfl, h1, h2⟩
  · rw [if_pos (h1 σ C.2.1), qb_9_1, if_pos (h2 _ hP.2.1)]; rfl
  rw [if_neg (h1 σ C.2.1), if_neg (h2 _ hP.2.1)]
  rcases qw_c n7 x2 with ⟨g1, g2⟩ | ⟨c, hc, rfl, g1, g2⟩
  · rw [if_pos (g1 σ C.1), if_pos rfl, qb_9_1, if_pos (g2 _ hP.1)]; rfl
  rw [if_neg (g1 σ C.1), if_neg (g2 _ hP.1)]
  rcases qw_c n7 x3 with ⟨k1, k2⟩ | ⟨d, hd, rfl, k1, k2⟩
  · rw [if_pos (k1 σ C.1), if_pos rfl, qb_9_1, if_pos (k2 _ hP.1)]; rfl
  rw [if_neg (k1 σ C.1), if_neg (k2 _ hP.1)]
  by_cases hcd : nI c = nI d
  · rw [if_pos hcd, if_pos rfl, qb_9_1, if_pos hcd]; rfl
  rw [if_neg hcd, if_neg (by decide), if_neg hcd]
  have i6 : i < 6 := by have := B.2.1; omega
  obtain ⟨o15, b9⟩ := B.2.2.2.2 i i6
  rw [qb_n (k := i) (by omega), (C.2.2.2.2 i i6).1]
  have A : qw_st (fun k => qs_ap (o i) (10 - 1 - k) (T c) (T d) = true) 10 (fun k => nI (10 - 1 - k)) (-9) (qa_cs (qa_wh (fun s => Sum.inr s) (mc_130_3_p41 N (nI c) (nI d) (nI (o i)) σ) N 9) (fun b6 => (b6, σ)) (fun b6 => (-9, σ))).1 := by
    refine qw_lf (e := fun s => Sum.inr s) (step := mc_130_3_p41 N (nI c) (nI d) (nI (o i)) σ) (fun k => qs_ap (o i) (10 - 1 - k) (T c) (T d) = true) (fun k => if k < 10 then nI (10 - 1 - k) else -1) (fun k => nI (10 - 1 - k)) (-9) (fun z => (qa_cs z (fun b4 => (b4, σ)) (fun b4 => ((-9 : Int32), σ))).1) 10 (by omega) (fun k hk => ?_) ⟨_, by unfold mc_130_3_p41; rw [if_pos (show (if 10 < 10 then nI (10 - 1 - 10) else -1) < (0 : Int32) by decide)], rfl⟩
    have e : (if k + 1 < 10 then nI (10 - 1 - (k + 1)) else -1) = nI (10 - 1 - k) + -1 := by
      have : ∀ k, k < 10 → (if k + 1 < 10 then nI (10 - 1 - (k + 1)) else -1) = nI (10 - 1 - k) + -1 := by decide
      exact this k hk
    rw [if_pos hk, e]
    unfold mc_130_3_p41
    dsimp only [qa_in]
    rw [if_neg (qw_n0 (by omega)), qb_n (k := c) (by omega), qb_n (k := d) (by omega), qs_55 (x := T c) (y := T d) (by omega) o15 (by omega) (fun m hm => ⟨C.2.2.2.1 c m hc hm, by have := B.2.2.2.1 c m hc hm; omega⟩) (fun m hm => ⟨C.2.2.2.1 d m hd hm, by have := B.2.2.2.1 d m hd hm; omega⟩)]
    cases h : qs_ap (o i) (10 - 1 - k) (T c) (T d)
    · exact Or.inl ⟨Bool.false_ne_true, by rw [if_pos (qs_unz.mpr h)]⟩
    · exact Or.inr ⟨rfl, _, by rw [if_neg (fun c => by rw [qs_unz.mp c] at h; cases h)], rfl⟩
  rw [qs_last (p := fun v => qs_ap (o i) v (T c) (T d)) (X := fun v => nI v) 10 _ A]
  have R := (qv_181 (N := N) (by omega) n7 hP).1
  obtain ⟨ρ, eρ⟩ : ∃ ρ, ρ = ma_181_99 N (qa_u τ 99 9 0) := ⟨_, rfl⟩
  rw [← eρ] at R ⊢
  have D := qw_lm (e := fun s => s) (step := mc_240_99_p59 N (nI i) (nI c) (nI d) (ρ 105 i)) (N := N) (fun m => ∃ v, v ≤ 9 ∧ qv_R n t s T o (qs_up b i v) m) (fun k (a : Int32) m => (nI k, a, m)) (fun a m => (nI 10, a, m)) (fun v a => if qs_ap (o i) v (T c) (T d) then nI v else a) 10 (-9) ρ (by omega) ⟨b i, b9, by
    have e : qs_up b i (b i) = b := by
      funext k
      unfold qs_up
      by_cases e : k = i
      · rw [e, beq_self_eq_true]; rfl
      · rw [beq_eq_false_iff_ne.mpr e]; rfl
    rw [e]; exact R⟩ (fun v a m hv hm => ?_) (fun a m hm => ?_)
  · obtain ⟨m', e1, -⟩ := D
    show _ = (qa_wh (fun s => s) (mc_240_99_p59 N (nI i) (nI c) (nI d) (ρ 105 i)) N (nI 0, -9, ρ)).2.1
    rw [e1]
  · obtain ⟨u, hu, Ru⟩ := hm
    have R1 := qv_Rb (v := v) i6 Ru
    rw [qs_upu] at R1
    refine ⟨_, ?_, v, by omega, R1⟩
    unfold mc_240_99_p59
    dsimp only [qa_in]
    rw [if_neg (show ¬ 9 < nI v from qb_ltF (a := 9) (by omega) (by omega)), qb_n (k := i) (by omega), qs_188 (by omega) (qv_Bb B (by omega)) R1 i6 hc hd, qb_s]
    have e : qs_up b i v i = v := by unfold qs_up; rw [beq_self_eq_true]; rfl
    rw [e]
    cases qs_ap (o i) v (T c) (T d) <;> rfl
  · unfold mc_240_99_p59
    dsimp only
    rw [if_pos (by decide)]
    exact ⟨m, rfl, hm⟩
/-! diluted -/
end QA
