/-! PAIRS OF CASKS; nearest, exact, rank, loner -/
/-- all two of n, the first's first -/
def qs_pf {A : Type} (n : Nat) (F : Nat → Nat → A → A) (a : A) : A := qw_f (fun i x => qw_f (fun j y => F i (i + 1 + j) y) (n - (i + 1)) x) n a
def qs_pi (n k : Nat) : Nat × Nat := (((List.range n).flatMap (fun i => (List.range (n - (i + 1))).map (fun j => (i, i + 1 + j))))[k]?).getD (0, 0)
theorem qs_pfk {A : Type} (F : Nat → Nat → A → A) (a : A) : ∀ n, n ≤ 7 → qs_pf n F a = qw_f (fun k x => F (qs_pi n k).1 (qs_pi n k).2 x) (n * (n - 1) / 2) a
  | 0, _ => rfl
  | 1, _ => rfl
  | 2, _ => rfl
  | 3, _ => rfl
  | 4, _ => rfl
  | 5, _ => rfl
  | 6, _ => rfl
  | 7, _ => rfl
  | n + 8, h => by omega
theorem qs_pil : ∀ n, n ≤ 7 → ∀ k, k < n * (n - 1) / 2 → (qs_pi n k).1 < (qs_pi n k).2 ∧ (qs_pi n k).2 < n := by
  have h : ∀ n, n < 8 → ∀ k, k < 21 → k < n * (n - 1) / 2 → (qs_pi n k).1 < (qs_pi n k).2 ∧ (qs_pi n k).2 < n := by decide +kernel
  intro n hn k hk
  have e : ∀ n, n < 8 → n * (n - 1) / 2 ≤ 21 := by decide
  exact h n (by omega) k (by have := e n (by omega); omega) hk
/-- a loop over all two -/
theorem qw_pr {A R : Type} {enc : A → R} {so : Int32 × R → (Int32 × R) ⊕ (Int32 × R)} {si : Nat → Int32 × R → (Int32 × R) ⊕ (Int32 × R)} {e1 e2 : Int32 × R → Int32 × R} (F : Nat → Nat → A → A) (n : Nat) {N : Nat} (hn : n ≤ 7) (hN : 10 ≤ N) (ho : ∀ i x, i < n → so (nI i, x) = .inl (nI (i + 1), (qa_wh e2 (si i) N (nI i + 1, x)).2)) (hoe : ∀ x, so (nI n, x) = .inr (nI n, x)) (hi : ∀ i j a, i < j → j < n → si i (nI j, enc a) = .inl (nI (j + 1), enc (F i j a))) (hie : ∀ i x, si i (nI n, x) = .inr (nI n, x)) (a : A) : qa_wh e1 so N (0, enc a) = (nI n, enc (qs_pf n F a)) := by
  refine qw_lp (fun k a => (nI k, enc a)) (fun a => (nI n, enc a)) (fun i x => qw_f (fun j y => F i (i + 1 + j) y) (n - (i + 1)) x) n a (by omega) (fun i x hi1 => ?_) (fun x => hoe _)
  rw [ho i _ hi1, qb_s]
  have h := qw_lp (e := e2) (step := si i) (N := N) (fun j y => (nI (i + 1 + j), enc y)) (fun y => (nI n, enc y)) (fun j y => F i (i + 1 + j) y) (n - (i + 1)) x (by omega) (fun j y hj => by rw [hi i (i + 1 + j) y (by omega) (by omega)]; rfl) (fun y => by rw [show i + 1 + (n - (i + 1)) = n by omega]; exact hie i _)
  rw [h]
section Q6
variable {n t : Nat} {s : Nat → Nat} {T : Nat → Nat → Nat} {o b : Nat → Nat} {σ τ : qa_S} {N : Nat}
theorem qw_tn {a c : Nat} : (10 : Int32) * nI a + nI c = nI (10 * a + c) := by rw [show (10 : Int32) * nI a = nI (10 * a) from qw_mul (a := 10), qw_add]
theorem qc_111 {xx yy : Prop} (hN : 5000 ≤ N) (hI : qb_I xx yy σ) : ma_111_3 N σ = (ma_226_99 N σ).1 := by
  obtain ⟨n, t, s, T, o, b, B, C, P⟩ := qv_get hI
  have n7 := B.1
  have P9 := qv_P2 qb_Fr P
  have R := (qv_181 (N := N) (by omega) n7 P9).1
  unfold ma_111_3 ma_226_99
  dsimp only [qa_in]
  obtain ⟨ρ, eρ⟩ : ∃ ρ, ρ = ma_181_99 N (qa_u σ 99 9 0) := ⟨_, rfl⟩
  rw [← eρ] at R ⊢
  rw [qw_pr (enc := fun (a : Int32 × Int32) => a) (si := fun i => mc_111_3_p23 N (nI i) σ) (e2 := fun s => s) (fun i j (a : Int32 × Int32) => (if a.1 = -9 then nI (10 * i + j) else (if nI (qs_di (T i) (T j)) < a.2 then nI (10 * i + j) else a.1), if a.1 = -9 then nI (qs_di (T i) (T j)) else (if nI (qs_di (T i) (T j)) < a.2 then nI (qs_di (T i) (T j)) else a.2))) n n7 (by omega) (fun i x hi => ?_) (fun x => ?_) (fun i j a hij hj => ?_) (fun i x => ?_) (-9, 0)]
  · rw [qw_pr (so := mc_226_99_p18 N ρ) (enc := fun (a : Int32 × Int32) => a) (si := fun i => mc_226_99_p31 N (nI i) ρ) (e2 := fun s => s) (fun i j (a : Int32 × Int32) => (if nI (qs_di (T i) (T j)) < a.2 then nI (10 * i + j) else a.1, if nI (qs_di (T i) (T j)) < a.2 then nI (qs_di (T i) (T j)) else a.2)) n n7 (by omega) (fun i x hi => ?_) (fun x => ?_) (fun i j a hij hj => ?_) (fun i x => ?_) (-9, 9999)]
    · dsimp only
      rw [qs_pfk _ _ n n7, qs_pfk _ _ n n7]
      have h := qs_min (fun _ => false) (fun k => nI (10 * (qs_pi n k).1 + (qs_pi n k).2)) (fun k => nI (qs_di (T (qs_pi n k).1) (T (qs_pi n k).2))) (n := n * (n - 1) / 2) (fun k hk => qw_n9 (by have := qs_pil n n7 k hk; omega)) (fun k hk => qb_ltT (b := 9999) (by
        obtain ⟨p1, p2⟩ := qs_pil n n7 k hk
        have := qs_dil (x := T (qs_pi n k).1) (y := T (qs_pi n k).2) (fun m hm => B.2.2.2.1 _ m (by omega) hm) (fun m hm => B.2.2.2.1 _ m (by omega) hm)
        omega) (by omega))
      exact h
    · unfold mc_226_99_p18
      dsimp only [qa_in]
      rw [R.1, if_pos (qb_ltT hi (by omega)), qb_s]
    · unfold mc_226_99_p18
      dsimp only
      rw [R.1, if_neg (qb_ltF (Nat.le_refl n) (by omega))]
    · unfold mc_226_99_p31
      dsimp only [qa_in]
      have Z : qa_wh (fun s => s) (mc_226_99_p46 N a.1 a.2 (nI i) (nI j) ρ) N ((0 : Int32), (0 : Int32)) = (nI 4, nI (qs_di (T i) (T j))) := by
        refine qw_lp (e := fun s => s) (fun j (a : Nat) => (nI j, nI a)) (fun a => (nI 4, nI a)) (fun m a => a + ((T i m - T j m) + (T j m - T i m))) 4 0 (by omega) (fun m a hm => ?_) (fun a => ?_)
        · unfold mc_226_99_p46
          dsimp only
          rw [if_pos (show nI m < (4 : Int32) from qb_ltT (b := 4) hm (by omega)), qb_i4 i (by omega) m hm, qb_i4 j (by omega) m hm, R.2.2.2.2 i m (by omega) hm, R.2.2.2.2 j m hj hm, show ∀ x, ma_227 x = ma_113 x from fun _ => rfl, qs_113 (by have := B.2.2.2.1 i m (by omega) hm; omega) (by have := B.2.2.2.1 j m hj hm; omega), qb_s, qw_add]
        · unfold mc_226_99_p46
          dsimp only
          rw [if_neg (show ¬ nI 4 < (4 : Int32) by decide)]
      rw [R.1, if_pos (qb_ltT hj (by omega)), Z, qb_s, qw_tn]
    · unfold mc_226_99_p31
      dsimp only
      rw [R.1, if_neg (qb_ltF (Nat.le_refl n) (by omega))]
  · unfold mc_111_3_p7
    dsimp only [qa_in]
    rw [C.1, if_pos (qb_ltT hi (by omega)), qb_s]
  · unfold mc_111_3_p7
    dsimp only
    rw [C.1, if_neg (qb_ltF (Nat.le_refl n) (by omega))]
  · unfold mc_111_3_p23
    dsimp only [qa_in]
    rw [C.1, if_pos (qb_ltT hj (by omega)), qs_112 (by omega) B C (by omega) hj, qb_s, qw_tn]
  · unfold mc_111_3_p23
    dsimp only
    rw [C.1, if_neg (qb_ltF (Nat.le_refl n) (by omega))]
/-! exact -/
theorem qw_f4 {A : Type} (G : Nat → A → A) (a : A) : ∀ n, qw_f G (4 * n) a = qw_f (fun c x => qw_f (fun m y => G (4 * c + m) y) 4 x) n a := by
  intro n
  induction n with
  | zero => rfl
  | succ n ih =>
    show G (4 * n + 3) (G (4 * n + 2) (G (4 * n + 1) (G (4 * n) (qw_f G (4 * n) a)))) = _
    rw [ih]
    rfl
def qs_ex (o b : Nat) (x : Nat → Nat) (m : Nat) : Bool := o.testBit m && (qs_tl b (x m) == x m)
theorem qw_r4 : ∀ i, i < 28 → nI i - nI i / 4 * 4 = nI (i % 4) := by decide
theorem qc_129 {xx yy : Prop} (hN : 5000 ≤ N) (hI : qb_I xx yy σ) (x1 : Int32) : (ma_129_3 N x1 σ).1 = (ma_239_99 N x1 (ma_129_3 N x1 σ).2).1 := by
  obtain ⟨n, t, s, T, o, b, B, C, P⟩ := qv_get hI
  have F : qb_F qb_sm2 σ (ma_129_3 N x1 σ).2 := mf_129_3 qb_hw (qb_hm (by omega)) qb_Fr
  suffices h : ∃ v, (ma_129_3 N x1 σ).1 = v ∧ ∀ τ, qv_P n t s T o b (qa_u τ 99 9 0) → (ma_239_99 N x1 τ).1 = v by
    obtain ⟨v, h1, h2⟩ := h
    exact h1.trans (h2 _ (qv_P2 F P)).symm
  have n7 := B.1
  unfold ma_129_3 ma_239_99
  dsimp only [qa_in]
  rcases qw_t B.2.1 x1 with ⟨h1, h2⟩ | ⟨i, hi, rfl, h1, h2⟩
  · rw [if_pos (h1 σ C.2.1), qb_9_1]
    exact ⟨_, rfl, fun τ hP => by rw [if_pos (h2 _ hP.2.1)]; rfl⟩
  rw [if_neg (h1 σ C.2.1)]
  dsimp only
  have i6 : i < 6 := by have := B.2.1; omega
  obtain ⟨o15, b9⟩ := B.2.2.2.2 i i6
  have L1 : qa_wh (fun s => s) (mc_129_3_p21 N (nI i) σ) N ((0 : Int32), (0 : Int32)) = (nI n, nI (qw_f (fun c (a : Nat) => qw_f (fun m (a : Nat) => if qs_ex (o i) (b i) (T c) m then a + 1 else a) 4 a) n 0)) := by
    refine qw_lp (e := fun s => s) (fun k (a : Nat) => (nI k, nI a)) (fun a => (nI n, nI a)) (fun c (a : Nat) => qw_f (fun m (a : Nat) => if qs_ex (o i) (b i) (T c) m then a + 1 else a) 4 a) n 0 (by omega) (fun c a hc => ?_) (fun a => ?_)
    · unfold mc_129_3_p21
      dsimp only [qa_in]
      have Z : qa_wh (fun s => s) (mc_129_3_p35 N (nI i) (nI c) σ) N ((0 : Int32), nI a) = (nI 4, nI (qw_f (fun m (a : Nat) => if qs_ex (o i) (b i) (T c) m then a + 1 else a) 4 a)) := by
        refine qw_lp (e := fun s => s) (fun k (a : Nat) => (nI k, nI a)) (fun a => (nI 4, nI a)) (fun m (a : Nat) => if qs_ex (o i) (b i) (T c) m then a + 1 else a) 4 a (by omega) (fun m a hm => ?_) (fun a => ?_)
        · unfold mc_129_3_p35
          dsimp only
          have h9 := B.2.2.2.1 c m hc hm
          rw [if_pos (show nI m < (4 : Int32) from qb_ltT (b := 4) hm (by omega)), qb_n (k := i) (by omega), qb_n (k := c) (by omega), qb_n (k := m) (by omega), (C.2.2.2.2 i i6).1, (C.2.2.2.2 i i6).2, C.2.2.2.1 c m hc hm, qs_50 (by omega) b9, qs_48 (o i) (by omega) m (by omega), qb_s, qb_s]
          have e := qs_eqi (a := qs_tl (b i) (T c m)) (b := T c m) (Nat.lt_of_le_of_lt qs_tlle (by omega)) (by omega)
          unfold qs_ex
          cases (o i).testBit m
          · rfl
          · rw [if_neg (by decide)]
            by_cases c1 : nI (qs_tl (b i) (T c m)) = nI (T c m)
            · rw [if_pos c1, e.mp c1]; rfl
            · rw [if_neg c1, Bool.eq_false_iff.mpr (fun c => c1 (e.mpr c))]; rfl
        · unfold mc_129_3_p35
          dsimp only
          rw [if_neg (show ¬ nI 4 < (4 : Int32) by decide)]
      rw [C.1, if_pos (qb_ltT hc (by omega)), Z, qb_s]
    · unfold mc_129_3_p21
      dsimp only
      rw [C.1, if_neg (qb_ltF (Nat.le_refl n) (by omega))]
  rw [L1]
  refine ⟨_, rfl, fun τ hP => ?_⟩
  have R := (qv_181 (N := N) (by omega) n7 hP).1
  rw [if_neg (h2 _ hP.2.1)]
  dsimp only
  obtain ⟨ρ, eρ⟩ : ∃ ρ, ρ = ma_181_99 N (qa_u τ 99 9 0) := ⟨_, rfl⟩
  rw [← eρ] at R ⊢
  have L2 : qa_wh (fun s => s) (mc_239_99_p27 N (nI i) ρ) N ((0 : Int32), (0 : Int32)) = (nI (4 * n), nI (qw_f (fun k (a : Nat) => if qs_ex (o i) (b i) (T (k / 4)) (k % 4) then a + 1 else a) (4 * n) 0)) := by
    refine qw_lp (e := fun s => s) (fun k (a : Nat) => (nI k, nI a)) (fun a => (nI (4 * n), nI a)) (fun k (a : Nat) => if qs_ex (o i) (b i) (T (k / 4)) (k % 4) then a + 1 else a) (4 * n) 0 (by omega) (fun k a hk => ?_) (fun a => ?_)
    · unfold mc_239_99_p27
      dsimp only
      have hc : k / 4 < n := by omega
      have hm : k % 4 < 4 := by omega
      have hT := R.2.2.2.2 (k / 4) (k % 4) hc hm
      rw [show 4 * (k / 4) + k % 4 = k by omega] at hT
      have h9 := B.2.2.2.1 (k / 4) (k % 4) hc hm
      rw [R.1, show (4 : Int32) * nI n = nI (4 * n) from qw_mul (a := 4), if_pos (qb_ltT hk (by omega)), qb_n (k := i) (by omega), qb_n (k := k) (by omega), (R.2.2.2.1 i i6).1, hT, qs_186 (by rw [qb_n (by omega)]; exact (R.2.2.2.1 i i6).2) (by omega) b9, qw_r4 k (by omega), qs_185 (o i) (by omega) (k % 4) (by omega), qb_s]
      have e := qs_eqi (a := qs_tl (b i) (T (k / 4) (k % 4))) (b := T (k / 4) (k % 4)) (Nat.lt_of_le_of_lt qs_tlle (by omega)) (by omega)
      unfold qs_ex
      cases (o i).testBit (k % 4)
      · exact congrArg (fun x => Sum.inl (nI (k + 1), x)) (Int32.add_zero (nI a))
      · rw [if_neg (by decide)]
        by_cases c1 : nI (qs_tl (b i) (T (k / 4) (k % 4))) = nI (T (k / 4) (k % 4))
        · rw [if_pos c1, e.mp c1, qb_s]; rfl
        · rw [if_neg c1, Bool.eq_false_iff.mpr (fun c => c1 (e.mpr c)), Int32.add_zero]; rfl
    · unfold mc_239_99_p27
      dsimp only
      rw [R.1, show (4 : Int32) * nI n = nI (4 * n) from qw_mul (a := 4), if_neg (qb_ltF (Nat.le_refl _) (by omega))]
  rw [L2]
  dsimp only
  rw [qw_f4]
  refine congrArg nI (qw_fx (fun c a hc => qw_fx (fun m x hm => ?_)))
  rw [show (4 * c + m) / 4 = c by omega, show (4 * c + m) % 4 = m by omega]
/-! rank -/
def qs_wt (x : Nat → Nat) : Nat := x 0 + x 1 + x 2 + x 3
theorem qs_95 (hN : 5 ≤ N) (hB : qv_B n t s T o b) (hC : qv_C n t s T o b σ) {c : Nat} (hc : c < n) : ma_95_4 N (nI c) σ = nI (qs_wt (T c)) := by
  have n7 := hB.1
  unfold ma_95_4
  dsimp only [qa_in]
  refine (congrArg Prod.snd (qw_lp (e := fun s => s) (fun k (a : Nat) => (nI k, nI a)) (fun a => (nI 4, nI a)) (fun m a => a + T c m) 4 0 hN (fun k a hk => ?_) (fun a => ?_))).trans ?_
  · unfold mc_95_4_p4
    dsimp only
    rw [if_pos (show nI k < (4 : Int32) from qb_ltT (b := 4) hk (by omega)), qb_n (k := k) (by omega), qb_n (k := c) (by omega), hC.2.2.2.1 c k hc hk, qb_s, qw_add]
  · unfold mc_95_4_p4
    dsimp only
    rw [if_neg (show ¬ nI 4 < (4 : Int32) by decide)]
  · show nI (0 + T c 0 + T c 1 + T c 2 + T c 3) = _
    rw [Nat.zero_add]
    rfl
theorem qs_216 (hB : qv_B n t s T o b) (hR : qv_R n t s T o b τ) {c : Nat} (hc : c < n) : ma_216_99 (nI c) τ = nI (qs_wt (T c)) := by
  have n7 := hB.1
  have i : ∀ c, c < 7 → ((4 : Int32) * nI c).toNatClampNeg = 4 * c + 0 ∧ ((4 : Int32) * nI c + 1).toNatClampNeg = 4 * c + 1 ∧ ((4 : Int32) * nI c + 2).toNatClampNeg = 4 * c + 2 ∧ ((4 : Int32) * nI c + 3).toNatClampNeg = 4 * c + 3 := by decide
  obtain ⟨i0, i1, i2, i3⟩ := i c (by omega)
  unfold ma_216_99
  rw [i0, i1, i2, i3, hR.2.2.2.2 c 0 hc (by omega), hR.2.2.2.2 c 1 hc (by omega), hR.2.2.2.2 c 2 hc (by omega), hR.2.2.2.2 c 3 hc (by omega), qw_add, qw_add, qw_add]
  rfl
theorem qs_wtl (hB : qv_B n t s T o b) {c : Nat} (hc : c < n) : qs_wt (T c) ≤ 396 := by
  have h := fun m hm => hB.2.2.2.1 c m hc hm
  have h0 := h 0 (by omega)
  have h1 := h 1 (by omega)
  have h2 := h 2 (by omega)
  have h3 := h 3 (by omega)
  unfold qs_wt
  omega
def qs_st (T : Nat → Nat → Nat) (c k : Nat) : Bool := decide (qs_wt (T c) < qs_wt (T k)) || (qs_wt (T k) == qs_wt (T c) && decide (k < c))
theorem qc_133 {xx yy : Prop} (hN : 5000 ≤ N) (hI : qb_I xx yy σ) (x1 : Int32) : (ma_133_3 N x1 σ).1 = (ma_242_99 N x1 (ma_133_3 N x1 σ).2).1 := by
  obtain ⟨n, t, s, T, o, b, B, C, P⟩ := qv_get hI
  have F : qb_F qb_sm2 σ (ma_133_3 N x1 σ).2 := mf_133_3 qb_hw (qb_hm (by omega)) qb_Fr
  have P2 := qv_P2 F P
  obtain ⟨τ, eτ⟩ : ∃ τ, τ = (ma_133_3 N x1 σ).2 := ⟨_, rfl⟩
  rw [← eτ] at P2 ⊢
  have n7 := B.1
  unfold ma_133_3 ma_242_99
  dsimp only [qa_in]
  by_cases h0 : x1 < 0
  · rw [if_pos h0, if_pos h0, qb_9_4]
    rfl
  rw [if_neg h0, if_neg h0]
  have R := (qv_181 (N := N) (by omega) n7 P2).1
  obtain ⟨ρ, eρ⟩ : ∃ ρ, ρ = ma_181_99 N (qa_u τ 99 9 0) := ⟨_, rfl⟩
  rw [← eρ] at R ⊢
  have A : qw_st (fun c => nI (qs_ct (qs_st T c) n) = x1) n (fun c => nI c) (-9) (qa_cs (qa_wh (fun s => Sum.inr s) (mc_133_3_p13 N x1 σ) N 0) (fun b4 => (b4, σ)) (fun b4 => (-9, σ))).1 := by
    refine qw_lf (e := fun s => Sum.inr s) (step := mc_133_3_p13 N x1 σ) (fun c => nI (qs_ct (qs_st T c) n) = x1) (fun k => nI k) (fun c => nI c) (-9) (fun z => (qa_cs z (fun b4 => (b4, σ)) (fun b4 => ((-9 : Int32), σ))).1) n (by omega) (fun c hc => ?_) ⟨_, by unfold mc_133_3_p13; rw [C.1, if_neg (qb_ltF (Nat.le_refl n) (by omega))], rfl⟩
    have Z : ma_134_3 N (nI c) σ = nI (qs_ct (qs_st T c) n) := by
      unfold ma_134_3
      dsimp only [qa_in]
      refine congrArg Prod.snd (qw_lp (e := fun s => s) (fun k (a : Nat) => (nI k, nI a)) (fun a => (nI n, nI a)) (fun k a => if qs_st T c k then a + 1 else a) n 0 (by omega) (fun k a hk => ?_) (fun a => ?_))
      · unfold mc_134_3_p14
        dsimp only [qa_in]
        have w1 := qs_wtl B hc
        have w2 := qs_wtl B hk
        rw [C.1, if_pos (qb_ltT hk (by omega)), qs_95 (by omega) B C hc, qs_95 (by omega) B C hk, qb_s, qb_s]
        unfold qs_st
        by_cases c1 : qs_wt (T c) < qs_wt (T k)
        · rw [if_pos (qb_ltT c1 (by omega)), decide_eq_true c1]; rfl
        rw [if_neg (qb_ltF (by omega) (by omega)), decide_eq_false c1]
        by_cases c2 : qs_wt (T k) = qs_wt (T c)
        · rw [if_pos (congrArg nI c2), c2, beq_self_eq_true]
          by_cases c3 : k < c
          · rw [if_pos (qb_ltT c3 (by omega)), decide_eq_true c3]; rfl
          · rw [if_neg (qb_ltF (by omega) (by omega)), decide_eq_false c3]; rfl
        · rw [if_neg (fun e => c2 ((qb_eq (by omega) (by omega)).mp e)), beq_eq_false_iff_ne.mpr c2]; rfl
      · unfold mc_134_3_p14
        dsimp only
        rw [C.1, if_neg (qb_ltF (Nat.le_refl n) (by omega))]
    unfold mc_133_3_p13
    dsimp only [qa_in]
    rw [C.1, if_pos (qb_ltT hc (by omega)), Z, qb_s]
    by_cases c1 : nI (qs_ct (qs_st T c) n) = x1
    · exact Or.inr ⟨c1, _, by rw [if_pos c1], rfl⟩
    · exact Or.inl ⟨c1, by rw [if_neg c1]⟩
  have D : qw_st (fun c => nI (qs_ct (qs_st T c) n) = x1) n (fun c => nI c) (-9) (qa_cs (qa_wh (fun s => Sum.inr s) (mc_242_99_p22 N x1 ρ) N 0) (fun b6 => (b6, ρ)) (fun b6 => (-9, ρ))).1 := by
    refine qw_lf (e := fun s => Sum.inr s) (step := mc_242_99_p22 N x1 ρ) (fun c => nI (qs_ct (qs_st T c) n) = x1) (fun k => nI k) (fun c => nI c) (-9) (fun z => (qa_cs z (fun b4 => (b4, ρ)) (fun b4 => ((-9 : Int32), ρ))).1) n (by omega) (fun c hc => ?_) ⟨_, by unfold mc_242_99_p22; rw [R.1, if_neg (qb_ltF (Nat.le_refl n) (by omega))], rfl⟩
    have Z : qa_wh (fun s => s) (mc_242_99_p35 N x1 (nI c) ρ) N ((0 : Int32), (0 : Int32)) = (nI n, nI (qs_ct (qs_st T c) n)) := by
      refine qw_lp (e := fun s => s) (fun k (a : Nat) => (nI k, nI a)) (fun a => (nI n, nI a)) (fun k a => if qs_st T c k then a + 1 else a) n 0 (by omega) (fun k a hk => ?_) (fun a => ?_)
      · unfold mc_242_99_p35
        dsimp only
        have w1 := qs_wtl B hc
        have w2 := qs_wtl B hk
        rw [R.1, if_pos (qb_ltT hk (by omega)), qs_216 B R hc, qs_216 B R hk, qb_s]
        unfold qs_st
        by_cases c1 : qs_wt (T c) < qs_wt (T k)
        · rw [if_pos (qb_ltT c1 (by omega)), decide_eq_true c1, qb_s]; rfl
        rw [if_neg (qb_ltF (by omega) (by omega)), decide_eq_false c1]
        by_cases c2 : qs_wt (T k) = qs_wt (T c)
        · rw [if_pos (congrArg nI c2), c2, beq_self_eq_true]
          by_cases c3 : k < c
          · rw [if_pos (qb_ltT c3 (by omega)), decide_eq_true c3, qb_s]; rfl
          · rw [if_neg (qb_ltF (by omega) (by omega)), decide_eq_false c3, Int32.add_zero]; rfl
        · rw [if_neg (fun e => c2 ((qb_eq (by omega) (by omega)).mp e)), beq_eq_false_iff_ne.mpr c2, Int32.add_zero]; rfl
      · unfold mc_242_99_p35
        dsimp only
        rw [R.1, if_neg (qb_ltF (Nat.le_refl n) (by omega))]
    unfold mc_242_99_p22
    dsimp only [qa_in]
    rw [R.1, if_pos (qb_ltT hc (by omega)), Z, qb_s]
    by_cases c1 : nI (qs_ct (qs_st T c) n) = x1
    · exact Or.inr ⟨c1, _, by rw [if_pos c1], rfl⟩
    · exact Or.inl ⟨c1, by rw [if_neg c1]⟩
  exact qw_stU A D (fun _ _ => Iff.rfl) (fun _ _ _ => rfl) rfl
end Q6
