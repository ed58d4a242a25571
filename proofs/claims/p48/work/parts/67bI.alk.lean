/-! alike, blind: how many of the bits, the first of them -/
def qs_K (n : Nat) : Nat → Nat
  | 0 => 0
  | i + 1 => qs_K n i + (n - (i + 1))
theorem qs_Kp : ∀ n, n ≤ 7 → ∀ i d, i + 1 + d < n → qs_pi n (qs_K n i + d) = (i, i + 1 + d) ∧ qs_K n i + d < qs_n2 n := by
  have h : ∀ n, n < 8 → ∀ i, i < 7 → ∀ d, d < 7 → i + 1 + d < n → qs_pi n (qs_K n i + d) = (i, i + 1 + d) ∧ qs_K n i + d < qs_n2 n := by decide +kernel
  exact fun n hn i d hd => h n (by omega) i (by omega) d (by omega) hd
theorem qs_bt {p : Nat → Bool} {m k : Nat} (hk : k < m) (hm : m ≤ 21) : (nI (qs_en p m) &&& nI (2 ^ k) = 0) ↔ p k = false := by
  have h1 : qs_en p m &&& 2 ^ k = if p k then 2 ^ k else 0 := by
    apply Nat.eq_of_testBit_eq
    intro i
    rw [Nat.testBit_and, qs_ent, Nat.testBit_two_pow]
    by_cases c : k = i
    · subst c
      rw [decide_eq_true hk, decide_eq_true rfl]
      cases p k
      · rw [if_neg Bool.false_ne_true, Nat.zero_testBit]; rfl
      · rw [if_pos rfl, Nat.testBit_two_pow, decide_eq_true rfl]; rfl
    · rw [decide_eq_false c, Bool.and_false]
      split
      · rw [Nat.testBit_two_pow, decide_eq_false c]
      · rw [Nat.zero_testBit]
  have h2 : 2 ^ k ≤ 2 ^ 21 := Nat.pow_le_pow_right (by omega) (by omega)
  have h3 := Nat.two_pow_pos k
  rw [qw_an, h1]
  cases p k
  · exact ⟨fun _ => rfl, fun _ => rfl⟩
  · rw [if_pos rfl, qw_z (by omega)]
    exact ⟨fun h => by omega, fun h => by cases h⟩
theorem qs_fst {p : Nat → Bool} {X : Nat → Nat} : ∀ {n : Nat}, (∀ k, k < n → X k < 1000) → qw_st (fun k => p k = true) n (fun k => nI (X k)) (-9) (qw_f (fun k (a : Int32) => if p k then (if a < 0 then nI (X k) else a) else a) n (-9)) := by
  intro n
  induction n with
  | zero => intro _; exact Or.inr ⟨fun j hj => by omega, rfl⟩
  | succ n ih =>
    intro hX
    rw [qw_fs]
    rcases ih (fun k hk => hX k (by omega)) with ⟨k, k1, k2, k3, k4⟩ | ⟨k1, k2⟩
    · rw [k4]
      have hn : ¬ nI (X k) < (0 : Int32) := qw_n0 (by have := hX k (by omega); omega)
      refine Or.inl ⟨k, by omega, k2, k3, ?_⟩
      dsimp only
      rw [if_neg hn]
      split <;> rfl
    · rw [k2]
      by_cases h : p n = true
      · rw [if_pos h, if_pos (show (-9 : Int32) < 0 by decide)]
        exact Or.inl ⟨n, by omega, h, k1, rfl⟩
      · rw [if_neg h]
        refine Or.inr ⟨fun j hj c => ?_, rfl⟩
        by_cases e : j = n
        · subst e; exact h c
        · exact k1 j (by omega) c
/-- counting and the first, side by side -/
theorem qs_cf {q : Nat → Bool} {X : Nat → Nat} : ∀ m, qw_f (fun k (a : Nat × Int32) => (if q k then a.1 + 1 else a.1, if q k then (if a.2 < 0 then nI (X k) else a.2) else a.2)) m (0, -9) = (qs_ct q m, qw_f (fun k (a : Int32) => if q k then (if a < 0 then nI (X k) else a) else a) m (-9)) := by
  intro m
  induction m with
  | zero => rfl
  | succ m ih => rw [qw_fs, ih]; rfl
section QI
variable {n t : Nat} {x s : Nat → Nat} {T : Nat → Nat → Nat} {o b : Nat → Nat} {σ τ : qa_S} {N : Nat}
/-- the first of the bits -/
def qs_1st (n : Nat) (p : Nat → Bool) : Int32 := qw_f (fun k (a : Int32) => if p k then (if a < 0 then nI (10 * (qs_pi n k).1 + (qs_pi n k).2) else a) else a) (qs_n2 n) (-9)
theorem qs_62 {p : Nat → Bool} (hN : 20 ≤ N) (hn : n ≤ 7) (h0 : σ 4 0 = nI n) (x1 : Int32) : ma_62_3 N (nI (qs_en p (qs_n2 n))) x1 σ = if x1 = 0 then nI (qs_ct p (qs_n2 n)) else qs_1st n p := by
  have n21 := qs_n2l n hn
  unfold ma_62_3
  by_cases c : x1 = 0
  · rw [if_pos c, if_pos c]; exact qs_pop n21
  rw [if_neg c, if_neg c]
  dsimp only [qa_in]
  refine qw_stU (p := fun k => p k = true) (q := fun k => p k = true) (n := qs_n2 n) (X := fun k => nI (10 * (qs_pi n k).1 + (qs_pi n k).2)) (X' := fun k => nI (10 * (qs_pi n k).1 + (qs_pi n k).2)) (Y := -9) (Y' := -9) ?_ (qs_fst (X := fun k => 10 * (qs_pi n k).1 + (qs_pi n k).2) (fun k hk => by have := qs_pil n hn k hk; omega)) (fun k _ => Iff.rfl) (fun k _ _ => rfl) rfl
  refine qb_lp (fun i (s : Int32 × Int32) => s = (nI i, nI (2 ^ qs_K n i)) ∧ ∀ k, k < qs_K n i → p k = false) (fun (r : Int32 ⊕ (Int32 × Int32)) => qw_st (fun k => p k = true) (qs_n2 n) (fun k => nI (10 * (qs_pi n k).1 + (qs_pi n k).2)) (-9) (qa_cs r (fun b3 => b3) (fun _ => (-9 : Int32)))) n (fun i s hi hs => ?_) (fun s hs => ?_) N 0 ((0 : Int32), (1 : Int32)) (by omega) (by omega) ⟨rfl, fun k hk => absurd hk (Nat.not_lt_zero k)⟩
  · obtain ⟨rfl, hp⟩ := hs
    unfold mc_62_3_p14
    dsimp only [qa_in]
    rw [if_pos (qw_ltT h0 hi (by omega)), qb_s]
    have A := qb_lp (e := fun s => Sum.inr s) (step := mc_62_3_p32 N (nI (qs_en p (qs_n2 n))) (nI i) σ) (fun d (s : Int32 × Int32) => s = (nI (i + 1 + d), nI (2 ^ (qs_K n i + d))) ∧ ∀ k, k < qs_K n i + d → p k = false) (fun (r : Int32 ⊕ (Int32 × Int32)) => (∃ k, k < qs_n2 n ∧ p k = true ∧ (∀ j, j < k → p j = false) ∧ r = .inl (nI (10 * (qs_pi n k).1 + (qs_pi n k).2))) ∨ (∃ z, r = .inr (z, nI (2 ^ (qs_K n i + (n - (i + 1))))) ∧ ∀ k, k < qs_K n i + (n - (i + 1)) → p k = false)) (n - (i + 1)) (fun d s hd hs => ?_) (fun s hs => ?_) N 0 (nI (i + 1), nI (2 ^ qs_K n i)) (by omega) (by omega) ⟨rfl, hp⟩
    · rcases A with ⟨k, k1, k2, k3, hr⟩ | ⟨z, hr, hq⟩
      · rw [hr]
        exact Or.inr ⟨_, rfl, Or.inl ⟨k, k1, k2, fun j hj (c : p j = true) => (by rw [k3 j hj] at c; cases c), rfl⟩⟩
      · rw [hr]
        exact Or.inl ⟨_, rfl, rfl, hq⟩
    · obtain ⟨rfl, hq⟩ := hs
      have e := qs_Kp n hn i d (by omega)
      unfold mc_62_3_p32
      dsimp only
      rw [if_pos (qw_ltT h0 (k := i + 1 + d) (by omega) (by omega))]
      by_cases hpk : p (qs_K n i + d) = true
      · rw [if_neg (fun c => by rw [(qs_bt e.2 n21).mp c] at hpk; cases hpk)]
        refine Or.inr ⟨_, rfl, Or.inl ⟨qs_K n i + d, e.2, hpk, hq, ?_⟩⟩
        rw [e.1, qw_tn]
      · rw [if_pos ((qs_bt e.2 n21).mpr (Bool.eq_false_iff.mpr hpk)), qb_s, qs_bs _ (by omega)]
        refine Or.inl ⟨_, rfl, rfl, fun k hk => ?_⟩
        by_cases ek : k = qs_K n i + d
        · rw [ek]; exact Bool.eq_false_iff.mpr hpk
        · exact hq k (by omega)
    · obtain ⟨rfl, hq⟩ := hs
      unfold mc_62_3_p32
      dsimp only
      rw [show i + 1 + (n - (i + 1)) = n by omega, if_neg (qw_ltF h0 (by omega))]
      exact ⟨_, rfl, Or.inr ⟨_, rfl, hq⟩⟩
  · obtain ⟨rfl, hp⟩ := hs
    have e : qs_K n n = qs_n2 n := by
      have h : ∀ n, n < 8 → qs_K n n = qs_n2 n := by decide
      exact h n (by omega)
    unfold mc_62_3_p14
    dsimp only [qa_in]
    rw [if_neg (qw_ltF h0 (by omega))]
    exact ⟨_, rfl, Or.inr ⟨fun j hj (c : p j = true) => (by rw [hp j (by omega)] at c; cases c), rfl⟩⟩
theorem qs_59 (hn : n ≤ 7) (h0 : σ 4 0 = nI n) : ma_59_3 σ = nI (2 ^ qs_n2 n - 1) := by
  have h : ∀ n, n < 8 → ((1 : Int32) <<< (((nI n * (nI n - 1)) / 2) &&& 31)) - 1 = nI (2 ^ qs_n2 n - 1) := by decide +kernel
  unfold ma_59_3
  rw [h0]
  exact h n (by omega)
theorem qs_2t (ht : t ≤ 6) : 2 ^ t ≤ 64 := Nat.le_trans (Nat.pow_le_pow_right (by omega) ht) (by decide : 2 ^ 6 ≤ 64)
theorem qs_any1 {f : Nat → Bool} {u : Nat} : ∀ t, qs_any (fun i => (2 ^ u).testBit i && f i) t = (decide (u < t) && f u) := by
  intro t
  induction t with
  | zero => rfl
  | succ t ih =>
    show (qs_any (fun i => (2 ^ u).testBit i && f i) t || ((2 ^ u).testBit t && f t)) = _
    rw [ih, Nat.testBit_two_pow]
    by_cases c : u = t
    · subst c
      rw [decide_eq_true (Nat.lt_succ_self u), decide_eq_false (Nat.lt_irrefl u), decide_eq_true rfl, Bool.false_and, Bool.false_or]
    · rw [decide_eq_false c, Bool.false_and, Bool.or_false]
      by_cases d : u < t
      · rw [decide_eq_true d, decide_eq_true (show u < t + 1 by omega)]
      · rw [decide_eq_false d, decide_eq_false (show ¬ u < t + 1 by omega)]
theorem qs_Pw1 {u k : Nat} (hu : u < t) : qs_Pw n t T o b (2 ^ u) k = qs_P n T o b u k := by
  unfold qs_Pw
  rw [qs_any1, decide_eq_true hu, Bool.true_and]
theorem qb_201 {x2 : Int32} : (ma_57 x2 = 0 ∧ ma_201 0 x2 1 = -2) ∨ (¬ ma_57 x2 = 0 ∧ ma_201 0 x2 1 = 0) := by
  unfold ma_201
  rcases qw_w x2 with ⟨w1, w2, -⟩ | ⟨-, w1, w2⟩
  · refine Or.inl ⟨w1, ?_⟩
    have w3 : ma_158 x2.toInt64 (0 : Int64) (1 : Int32).toInt64 = 0 := w2
    rw [if_pos rfl, if_pos w3]
  · refine Or.inr ⟨w1, ?_⟩
    have w3 : ¬ ma_158 x2.toInt64 (0 : Int64) (1 : Int32).toInt64 = 0 := w2
    rw [if_pos rfl, if_neg w3]
theorem qc_136 {xx yy : Prop} (hN : 5000 ≤ N) (hI : qb_I xx yy σ) (x1 x2 : Int32) : (ma_136_3 N x1 x2 σ).1 = (ma_244_99 N x1 x2 (ma_136_3 N x1 x2 σ).2).1 := by
  obtain ⟨n, t, s, T, o, b, B, C, P⟩ := qv_get hI
  have F : qb_F qb_sm2 σ (ma_136_3 N x1 x2 σ).2 := mf_136_3 qb_hw (qb_hm (by omega)) qb_Fr
  suffices h : ∃ v, (ma_136_3 N x1 x2 σ).1 = v ∧ ∀ τ, qv_P n t s T o b (qa_u τ 99 9 0) → (ma_244_99 N x1 x2 τ).1 = v by
    obtain ⟨v, h1, h2⟩ := h
    exact h1.trans (h2 _ (qv_P2 F P)).symm
  have n7 := B.1
  have t6 := B.2.1
  have w64 := qs_2t t6
  unfold ma_136_3 ma_244_99
  dsimp only [qa_in]
  rcases qw_t B.2.1 x1 with ⟨h1, h2⟩ | ⟨u, hu, rfl, h1, h2⟩
  · rw [if_pos (h1 σ C.2.1), qb_9_1]
    exact ⟨_, rfl, fun τ hP => by
      rw [if_pos (h2 _ hP.2.1), if_pos (show (-1 : Int32) < 0 by decide)]; rfl⟩
  rw [if_neg (h1 σ C.2.1)]
  rcases qb_201 (x2 := x2) with ⟨w1, w2⟩ | ⟨w1, w2⟩
  · rw [if_pos w1, qb_9_2]
    exact ⟨_, rfl, fun τ hP => by
      rw [if_neg (h2 _ hP.2.1), w2, if_pos (show (-2 : Int32) < 0 by decide)]; rfl⟩
  rw [if_neg w1]
  dsimp only
  obtain ⟨h3, F1⟩ := qs_58 (N := N) (by omega) B C
  have C1 := qv_CF F1 (fun a j h c => by omega) C n7
  obtain ⟨m, em⟩ : ∃ m, m = ma_58_3 N σ := ⟨_, rfl⟩
  rw [← em] at h3 F1 C1 ⊢
  have hw : 2 ^ u < 128 := by
    have : 2 ^ u ≤ 64 := qs_2t (by omega)
    omega
  rw [qw_sh u (by omega), qs_61 (by omega) B C1.2.1 h3 hw, qs_59 n7 C1.1, qs_ennot (by have := qs_n2l n n7; omega), qs_62 (by omega) n7 C1.1]
  refine ⟨_, rfl, fun τ hP => ?_⟩
  rw [if_neg (h2 _ hP.2.1), w2, if_neg (show ¬ (0 : Int32) < 0 by decide)]
  dsimp only
  have R := (qv_181 (N := N) (by omega) n7 hP).1
  obtain ⟨ρ, eρ⟩ : ∃ ρ, ρ = ma_181_99 N (qa_u τ 99 9 0) := ⟨_, rfl⟩
  rw [← eρ] at R ⊢
  have L : qa_wh (fun s => s) (mc_244_99_p48 N (nI u) x2 ρ) N ((0 : Int32), (0 : Int32), (-9 : Int32)) = (nI n, nI (qs_ct (fun k => !qs_P n T o b u k) (qs_n2 n)), qs_1st n (fun k => !qs_P n T o b u k)) := by
    have h := qw_pr (e1 := fun s => s) (so := mc_244_99_p48 N (nI u) x2 ρ) (enc := fun (a : Nat × Int32) => (nI a.1, a.2)) (si := fun i => mc_244_99_p63 N (nI u) x2 (nI i) ρ) (e2 := fun s => s) (fun i j (a : Nat × Int32) => (if !qs_ap (o u) (b u) (T i) (T j) then a.1 + 1 else a.1, if !qs_ap (o u) (b u) (T i) (T j) then (if a.2 < 0 then nI (10 * i + j) else a.2) else a.2)) n (N := N) n7 (by omega) (fun i x hi => ?_) (fun x => ?_) (fun i j a hij hj => ?_) (fun i x => ?_) (0, -9)
    · refine Eq.trans h ?_
      rw [qs_pfk _ _ n n7]
      exact congrArg (fun (z : Nat × Int32) => (nI n, nI z.1, z.2)) (qs_cf (q := fun k => !qs_P n T o b u k) (X := fun k => 10 * (qs_pi n k).1 + (qs_pi n k).2) (qs_n2 n))
    · unfold mc_244_99_p48
      dsimp only [qa_in]
      rw [if_pos (qw_ltT R.1 hi (by omega)), qb_s]
    · unfold mc_244_99_p48
      dsimp only
      rw [if_neg (qw_ltF R.1 (by omega))]
    · unfold mc_244_99_p63
      dsimp only [qa_in]
      rw [if_pos (qw_ltT R.1 hj (by omega)), qs_188 (by omega) B R (show u < 6 by omega) (show i < n by omega) hj, qb_s, qw_tn]
      cases qs_ap (o u) (b u) (T i) (T j)
      · exact congrArg Sum.inl (Prod.ext rfl (Prod.ext qb_s rfl))
      · exact congrArg Sum.inl (Prod.ext rfl (Prod.ext (Int32.add_zero _) rfl))
    · unfold mc_244_99_p63
      dsimp only
      rw [if_neg (qw_ltF R.1 (by omega))]
  have e : (fun k => !qs_Pw n t T o b (2 ^ u) k) = (fun k => !qs_P n T o b u k) := funext (fun k => by rw [qs_Pw1 hu])
  rw [L, e]
end QI
