/-! FRACTIONS: Euclid on both sides -/
def nL (n : Nat) : Int64 := Int64.ofNat n
theorem nL_i {n : Nat} (h : n < 9223372036854775808) : (nL n).toInt = (n : Int) := Int64.toInt_ofNat_of_lt h
theorem nL_e {a b : Nat} (ha : a < 9223372036854775808) (hb : b < 9223372036854775808) : nL a = nL b ↔ a = b := by
  rw [← Int64.toInt_inj, nL_i ha, nL_i hb]
  omega
theorem nL_a {a b : Nat} : nL a + nL b = nL (a + b) := (Int64.ofNat_add a b).symm
theorem nL_m {a b : Nat} : nL a * nL b = nL (a * b) := (Int64.ofNat_mul a b).symm
theorem nL_s {a b : Nat} (h : b ≤ a) : nL a - nL b = nL (a - b) := by
  have e : nL (a - b) + nL b = nL a := by rw [nL_a, show a - b + b = a by omega]
  rw [← e]
  exact Int64.add_sub_cancel _ _
theorem nL_d {a b : Nat} (ha : a < 9223372036854775808) (hb : b < 9223372036854775808) : nL a / nL b = nL (a / b) := by
  apply Int64.toInt_inj.mp
  have h1 := Nat.div_le_self a b
  rw [Int64.toInt_div, nL_i ha, nL_i hb, show (a : Int).tdiv (b : Int) = ((a / b : Nat) : Int) from rfl]
  generalize a / b = q at h1 ⊢
  rw [nL_i (by omega)]
  exact Int.bmod_eq_of_le (by omega) (by omega)
theorem nL_r {a b : Nat} (ha : a < 9223372036854775808) (hb : b < 9223372036854775808) : nL a - nL a / nL b * nL b = nL (a % b) := by
  rw [nL_d ha hb, nL_m, nL_s (Nat.div_mul_le_self a b)]
  refine congrArg nL ?_
  have := Nat.div_add_mod a b
  rw [Nat.mul_comm] at this
  omega
theorem nL_I {a : Nat} (h : a < 2147483648) : (nI a).toInt64 = nL a := by
  apply Int64.toInt_inj.mp
  rw [Int32.toInt_toInt64, nI_toInt h, nL_i (by omega)]
theorem lg_z {x : Int64} : lg_cmp x 0 = 0 ↔ x = 0 := by
  unfold lg_cmp
  by_cases c : x > 0
  · rw [if_pos c]
    exact ⟨fun h => absurd h (by decide), fun h => by rw [h] at c; exact absurd c (by decide)⟩
  · rw [if_neg c]
    by_cases d : x = 0
    · rw [if_pos d]; exact ⟨fun _ => d, fun _ => rfl⟩
    · rw [if_neg d]; exact ⟨fun h => absurd h (by decide), fun h => absurd h d⟩
theorem lg_n {a : Nat} (h : a < 9223372036854775808) : lg_cmp (nL a) 0 = 0 ↔ a = 0 := by
  rw [lg_z]
  exact nL_e (b := 0) h (by omega)
theorem qb_cmp {x : Int64} : lg_cmp x x = 0 := by
  unfold lg_cmp
  rw [if_neg (show ¬ x > x from Int64.lt_irrefl), if_pos rfl]
/-- both sides' Euclid -/
theorem qt_e {a0 a2 : Int64} {p : Int32} : ∀ (j x y k N N' : Nat), y < 2 ^ j → k + 2 * j < 100 → 2 * j < N → 2 * j < N' → x < 9223372036854775808 → y < 9223372036854775808 → (qa_wh (fun s => s) (mc_83_p35 N a0 a2 p) N' (nI k, nL x, nL y)).2.1 = nL (Nat.gcd x y) ∧ (qa_wh (fun s => s) (mc_204_p17 N) N' (nL x, nL y)).1 = nL (Nat.gcd x y) := by
  have ex : ∀ (x k N N' : Nat), k < 100 → 0 < N' → x < 9223372036854775808 → (qa_wh (fun s => s) (mc_83_p35 N a0 a2 p) N' (nI k, nL x, nL 0)).2.1 = nL (Nat.gcd x 0) ∧ (qa_wh (fun s => s) (mc_204_p17 N) N' (nL x, nL 0)).1 = nL (Nat.gcd x 0) := by
    intro x k N N' hk hN hx
    obtain ⟨M, rfl⟩ : ∃ M, N' = M + 1 := ⟨N' - 1, by omega⟩
    have z : lg_cmp (nL 0) 0 = 0 := (lg_n (by omega)).mpr rfl
    rw [qa_whr (b := (nI k, nL x, nL 0)) (by unfold mc_83_p35; dsimp only; rw [if_pos (show nI k < (100 : Int32) from qb_ltT (b := 100) hk (by omega)), if_pos z]), qa_whr (b := (nL x, nL 0)) (by unfold mc_204_p17; dsimp only; rw [if_pos z]), Nat.gcd_zero_right]
    exact ⟨rfl, rfl⟩
  have st : ∀ (x y k N M : Nat), k < 100 → 0 < y → x < 9223372036854775808 → y < 9223372036854775808 → qa_wh (fun s => s) (mc_83_p35 N a0 a2 p) (M + 1) (nI k, nL x, nL y) = qa_wh (fun s => s) (mc_83_p35 N a0 a2 p) M (nI (k + 1), nL y, nL (x % y)) ∧ qa_wh (fun s => s) (mc_204_p17 N) (M + 1) (nL x, nL y) = qa_wh (fun s => s) (mc_204_p17 N) M (nL y, nL (x % y)) := by
    intro x y k N M hk hy hx hy2
    have z : ¬ lg_cmp (nL y) 0 = 0 := fun c => by have := (lg_n hy2).mp c; omega
    constructor
    · rw [qa_whl (s' := (nI (k + 1), nL y, nL (x % y))) (by unfold mc_83_p35; dsimp only; rw [if_pos (show nI k < (100 : Int32) from qb_ltT (b := 100) hk (by omega)), if_neg z, nL_r hx hy2, qb_s])]
    · rw [qa_whl (s' := (nL y, nL (x % y))) (by unfold mc_204_p17; dsimp only; rw [if_neg z, nL_r hx hy2])]
  have gc : ∀ x y : Nat, Nat.gcd y (x % y) = Nat.gcd x y := fun x y => by rw [Nat.gcd_comm y, ← Nat.gcd_rec, Nat.gcd_comm]
  intro j
  induction j with
  | zero =>
    intro x y k N N' hy hk hN hN' hx hy2
    have e : y = 0 := by rw [Nat.pow_zero] at hy; omega
    subst e
    exact ex x k N N' (by omega) (by omega) hx
  | succ j ih =>
    intro x y k N N' hy hk hN hN' hx hy2
    by_cases z : y = 0
    · subst z
      exact ex x k N N' (by omega) (by omega) hx
    obtain ⟨M, rfl⟩ : ∃ M, N' = M + 2 := ⟨N' - 2, by omega⟩
    have r1 := Nat.mod_lt x (show 0 < y by omega)
    obtain ⟨s1, s2⟩ := st x y k N (M + 1) (by omega) (by omega) hx hy2
    rw [s1, s2, ← gc x y]
    by_cases z2 : x % y = 0
    · rw [z2]
      exact ex y (k + 1) N (M + 1) (by omega) (by omega) hy2
    obtain ⟨s3, s4⟩ := st y (x % y) (k + 1) N M (by omega) (by omega) hy2 (by omega)
    rw [s3, s4, ← gc y (x % y)]
    have r2 := Nat.mod_lt y (show 0 < x % y by omega)
    have h2 : y % (x % y) < 2 ^ j := by
      have e : 2 ^ (j + 1) = 2 * 2 ^ j := by rw [Nat.pow_succ, Nat.mul_comm]
      have l : y % (x % y) ≤ y - x % y := by
        have := Nat.mod_eq_sub_mod (a := y) (b := x % y) (by omega)
        rw [this]
        exact Nat.mod_le _ _
      omega
    exact ih (x % y) (y % (x % y)) (k + 1 + 1) N M h2 (by omega) (by omega) (by omega) (by omega) (by omega)
/-- the fractions agree -/
theorem qt_fr {N b : Nat} {A : Int64} {p : Int32} (hN : 5000 ≤ N) (hA : -4000000000000000000 ≤ A.toInt ∧ A.toInt ≤ 4000000000000000000) (hb : 0 < b) (hb2 : b < 2 ^ 40) (hp : p = 0 ∨ p = 1) : ma_83 N A (nL b) p = ma_203 N A (nL b) p := by
  unfold ma_83 ma_203
  have zb : ¬ lg_cmp (nL b) 0 = 0 := fun c => by have := (lg_n (by omega)).mp c; omega
  by_cases z : lg_cmp A 0 = 0
  · rw [if_pos z, if_pos z]
    rcases hp with h | h <;> subst h <;> decide
  rw [if_neg z, if_neg z, if_neg zb]
  dsimp only [qa_in]
  unfold ma_204
  dsimp only [qa_in]
  have eA : ∃ x, x < 9223372036854775808 ∧ (if lg_cmp A 0 < 0 then -A else A) = nL x := by
    have z0 : (0 : Int64).toInt = 0 := by decide
    refine ⟨A.toInt.natAbs, by omega, ?_⟩
    apply Int64.toInt_inj.mp
    rw [nL_i (by omega)]
    unfold lg_cmp
    by_cases c : A > 0
    · have c' : (0 : Int64) < A := c
      rw [Int64.lt_iff_toInt_lt, z0] at c'
      rw [if_pos c, if_neg (by decide)]
      omega
    · rw [if_neg c]
      by_cases d : A = 0
      · rw [if_pos d, if_neg (by decide), d]; decide
      · have c' : ¬ (0 : Int64) < A := c
        rw [Int64.lt_iff_toInt_lt, z0] at c'
        rw [if_neg d, if_pos (by decide), Int64.toInt_neg, Int.bmod_eq_of_le (by omega) (by omega)]
        omega
  obtain ⟨x, hx, ex⟩ := eA
  have e84 : ma_84 A = nL x := ex
  rw [e84, ex]
  obtain ⟨q1, q2⟩ := qt_e (a0 := A) (a2 := nL b) (p := p) 40 x b 0 N N hb2 (by omega) (by omega) (by omega) hx (by omega)
  have q1' : (qa_wh (fun s => s) (mc_83_p35 N A (nL b) p) N ((0 : Int32), nL x, nL b)).2.1 = nL (Nat.gcd x b) := q1
  rw [q1', q2]
  have g0 : 0 < Nat.gcd x b := Nat.gcd_pos_of_pos_right x hb
  have g1 : Nat.gcd x b ≤ b := Nat.le_of_dvd hb (Nat.gcd_dvd_right x b)
  rw [if_neg (fun c => by have := (lg_n (by omega)).mp c; omega)]
theorem qt_0 {N : Nat} {B : Int64} {p : Int32} (hp : p = 0 ∨ p = 1) : ma_83 N 0 B p = p.toInt64 := by
  unfold ma_83
  rw [if_pos (lg_z.mpr rfl)]
  rcases hp with h | h <;> subst h <;> decide
/-! onions -/
section QP
variable {n t : Nat} {x s : Nat → Nat} {T : Nat → Nat → Nat} {o b : Nat → Nat} {σ τ : qa_S} {N : Nat}
theorem qt_107 {a : Nat} {k : Nat} (hN : 100 ≤ N) (hk : k < 50) : ma_107 N (nL a) (nI k) = nL (a ^ k) := by
  unfold ma_107
  dsimp only [qa_in]
  have e : ∀ j, qw_f (fun _ z => z * a) j 1 = a ^ j := by
    intro j
    induction j with
    | zero => rfl
    | succ j ih =>
      show qw_f (fun _ z => z * a) j 1 * a = a ^ (j + 1)
      rw [ih, Nat.pow_succ]
  rw [← e k]
  refine congrArg Prod.snd (qw_lp (e := fun s => s) (fun j (z : Nat) => (nI j, nL z)) (fun z => (nI k, nL z)) (fun _ z => z * a) k 1 (by omega) (fun j z hj => ?_) (fun z => ?_))
  · unfold mc_107_p5
    dsimp only
    rw [if_pos (qb_ltT hj (by omega)), qb_s, nL_m]
  · unfold mc_107_p5
    dsimp only
    rw [if_neg (qb_ltF (Nat.le_refl k) (by omega))]
theorem qt_ct : ∀ t, t < 7 → ∀ w, w < 64 → w < 2 ^ t → qs_ct (fun k => w.testBit k) 7 = qs_ct (fun k => w.testBit k) t := by decide +kernel
theorem qt_p6 : ∀ a, a < 21 → ∀ k, k < 7 → 2 ≤ a → 0 < a ^ k ∧ a ^ k < 134217728 := by decide +kernel
theorem qc_106 {xx yy : Prop} (hN : 5000 ≤ N) (hI : qb_I xx yy σ) (x1 x2 : Int32) : (ma_106_3 N x1 x2 σ).1 = (ma_223_99 N x1 x2 (ma_106_3 N x1 x2 σ).2).1 := by
  obtain ⟨n, t, s, T, o, b, B, C, P⟩ := qv_get hI
  have F : qb_F qb_sm2 σ (ma_106_3 N x1 x2 σ).2 := mf_106_3 qb_hw (qb_hm (by omega)) qb_Fr
  suffices h : ∃ v, (ma_106_3 N x1 x2 σ).1 = v ∧ ∀ τ, qv_P n t s T o b (qa_u τ 99 9 0) → (ma_223_99 N x1 x2 τ).1 = v by
    obtain ⟨v, h1, h2⟩ := h
    exact h1.trans (h2 _ (qv_P2 F P)).symm
  have n7 := B.1
  have t6 := B.2.1
  have w64 := qs_2t t6
  have p2 := Nat.two_pow_pos t
  have r1 : ∀ z : Int32, z < 0 → ma_201 z x2 1 = z := fun z hz => by
    unfold ma_201
    rw [if_neg (fun c => by rw [c] at hz; exact absurd hz (by decide))]
  have m4 : (-4 : Int32) < 0 := by decide
  have m6 : (-6 : Int32) < 0 := by decide
  unfold ma_106_3 ma_223_99 ma_81_3
  dsimp only [qa_in]
  by_cases c1 : x1 < 2
  · rw [if_pos c1, qb_9_4]
    exact ⟨_, rfl, fun τ hP => by rw [show ma_175 x1 2 20 = -4 from if_pos c1, r1 _ m4, if_pos m4]; rfl⟩
  rw [if_neg c1]
  by_cases c2 : 20 < x1
  · rw [if_pos c2, qb_9_6]
    exact ⟨_, rfl, fun τ hP => by rw [show ma_175 x1 2 20 = -6 from (if_neg c1).trans (if_pos c2), r1 _ m6, if_pos m6]; rfl⟩
  rw [if_neg c2]
  rcases qb_201 (x2 := x2) with ⟨w1, w2⟩ | ⟨w1, w2⟩
  · rw [if_pos w1, qb_9_2]
    exact ⟨_, rfl, fun τ hP => by
      rw [show ma_175 x1 2 20 = 0 from (if_neg c1).trans (if_neg c2), w2, if_pos (show (-2 : Int32) < 0 by decide)]; rfl⟩
  rw [if_neg w1]
  have hp : x2 = 0 ∨ x2 = 1 := by
    rcases qw_w x2 with ⟨w3, -, -⟩ | ⟨w3, -, -⟩
    · exact absurd w3 w1
    · exact w3
  obtain ⟨q, q1, q2, rfl⟩ : ∃ q, 2 ≤ q ∧ q ≤ 20 ∧ x1 = nI q := by
    rw [Int32.lt_iff_toInt_lt, show (2 : Int32).toInt = 2 by decide] at c1
    rw [Int32.lt_iff_toInt_lt, show (20 : Int32).toInt = 20 by decide] at c2
    exact ⟨x1.toInt.toNat, by omega, by omega, q53_nI (by omega)⟩
  have eq1 : (nI q - 1).toInt64 = nL (q - 1) := by
    rw [show (1 : Int32) = nI 1 from rfl, qw_sub (by omega), nL_I (by omega)]
  dsimp only
  obtain ⟨h1, F1⟩ := qs_58 (N := N) (by omega) B C
  have C1 := qv_CF F1 (fun a j h c => by omega) C n7
  obtain ⟨m, em⟩ : ∃ m, m = ma_58_3 N σ := ⟨_, rfl⟩
  rw [← em] at h1 F1 C1 ⊢
  rw [qs_60p t6 C1.2.1, qs_61 (by omega) B C1.2.1 h1 (show 2 ^ t - 1 < 128 by omega), C1.2.1, nL_I (by omega), qt_107 (by omega) (by omega)]
  obtain ⟨G, eG⟩ : ∃ G : Nat → Nat → Nat, G = fun w a => if qs_Ew n t T o b w then a + (q - 1) ^ qs_ct (fun k => w.testBit k) t else a := ⟨_, rfl⟩
  obtain ⟨Z, eZ⟩ : ∃ Z, Z = 134217728 := ⟨_, rfl⟩
  have pl : ∀ w, w < 64 → w < 2 ^ t → (q - 1) ^ qs_ct (fun k => w.testBit k) t ≤ Z := fun w _ _ => by
    have l : qs_ct (fun k => w.testBit k) t ≤ t := qs_ctl
    have l1 : (q - 1) ^ qs_ct (fun k => w.testBit k) t ≤ q ^ qs_ct (fun k => w.testBit k) t := Nat.pow_le_pow_left (by omega) _
    have l2 := (qt_p6 q (by omega) (qs_ct (fun k => w.testBit k) t) (by omega) q1).2
    rw [eZ]
    exact Nat.le_of_lt (Nat.lt_of_le_of_lt l1 l2)
  have Gl0 : qw_f G (2 ^ t) 0 ≤ 2 ^ t * Z := qw_fI (F := G) (a := 0) (fun k a => a ≤ k * Z) (Nat.zero_le _) (n := 2 ^ t) (fun k a hk ha => by
    have h1 := pl k (by omega) hk
    have e : (k + 1) * Z = k * Z + Z := Nat.succ_mul _ _
    rw [eG, e]
    dsimp only
    split
    · exact Nat.add_le_add ha h1
    · exact Nat.le_trans ha (Nat.le_add_right _ _))
  have Gl : qw_f G (2 ^ t) 0 ≤ 64 * 134217728 := by
    have := Nat.mul_le_mul_right Z w64
    rw [← eZ]
    exact Nat.le_trans Gl0 this
  have L : qa_wh (fun s => s) (mc_106_3_p58 N (nI q) x2 (nI (qs_en (qs_Pw n t T o b (2 ^ t - 1)) (qs_n2 n))) m) N ((0 : Int32), (0 : Int64)) = (nI (2 ^ t), nL (qw_f G (2 ^ t) 0)) := by
    refine qw_lp (e := fun s => s) (fun k (a : Nat) => (nI k, nL a)) (fun a => (nI (2 ^ t), nL a)) G (2 ^ t) 0 (by omega) (fun w a hw => ?_) (fun a => ?_)
    · unfold mc_106_3_p58
      dsimp only [qa_in]
      have l : qs_ct (fun k => w.testBit k) 7 ≤ 7 := qs_ctl
      rw [qs_60p t6 C1.2.1, if_neg (qb_ltF (show w ≤ 2 ^ t - 1 by omega) (by omega)), qs_61 (by omega) B C1.2.1 h1 (show w < 128 by omega), qs_63 w (by omega), eq1, qt_107 (by omega) (by omega), qt_ct t (by omega) w (by omega) hw, qb_s, eG]
      refine congrArg Sum.inl (Prod.ext rfl ?_)
      dsimp only
      by_cases c : qs_Ew n t T o b w = true
      · rw [if_pos c, if_pos ((qs_Ewc n7).mpr c), nL_a]
      · rw [if_neg c, if_neg (fun h => c ((qs_Ewc n7).mp h))]
    · unfold mc_106_3_p58
      dsimp only [qa_in]
      rw [qs_60p t6 C1.2.1, if_pos (qb_ltT (show 2 ^ t - 1 < 2 ^ t by omega) (by omega))]
  rw [L]
  dsimp only
  have bt := qt_p6 q (by omega) t (by omega) q1
  rw [qt_fr hN (by rw [nL_i (by omega)]; omega) bt.1 (by omega) hp]
  refine ⟨_, rfl, fun τ hP => ?_⟩
  rw [show ma_175 (nI q) 2 20 = 0 from (if_neg c1).trans (if_neg c2), w2, if_neg (show ¬ (0 : Int32) < 0 by decide)]
  dsimp only
  have R := (qv_181 (N := N) (by omega) n7 hP).1
  obtain ⟨ρ, eρ⟩ : ∃ ρ, ρ = ma_181_99 N (qa_u τ 99 9 0) := ⟨_, rfl⟩
  rw [← eρ] at R ⊢
  have D : qa_wh (fun s => s) (mc_223_99_p46 N (nI q) x2 (1 : Int64) ρ) N ((0 : Int32), (0 : Int64)) = (nI (2 ^ t), nL (qw_f G (2 ^ t) 0)) := by
    refine qw_lp (e := fun s => s) (fun k (a : Nat) => (nI k, nL a)) (fun a => (nI (2 ^ t), nL a)) G (2 ^ t) 0 (by omega) (fun w a hw => ?_) (fun a => ?_)
    · have Z : qa_wh (fun s => s) (mc_223_99_p61 N (nI q) x2 (nL a) (1 : Int64) (nI w) ρ) N ((0 : Int32), (1 : Int64)) = (nI t, nL ((q - 1) ^ qs_ct (fun k => w.testBit k) t)) := by
        have e : ∀ j, qw_f (fun k z => if w.testBit k then z * (q - 1) else z) j 1 = (q - 1) ^ qs_ct (fun k => w.testBit k) j := by
          intro j
          induction j with
          | zero => rfl
          | succ j ih =>
            show (if w.testBit j then qw_f _ j 1 * (q - 1) else qw_f _ j 1) = (q - 1) ^ (if w.testBit j then qs_ct (fun k => w.testBit k) j + 1 else qs_ct (fun k => w.testBit k) j)
            rw [ih]
            split
            · rw [Nat.pow_succ]
            · rfl
        rw [← e t]
        refine qw_lp (e := fun s => s) (fun k (z : Nat) => (nI k, nL z)) (fun z => (nI t, nL z)) (fun k z => if w.testBit k then z * (q - 1) else z) t 1 (by omega) (fun k z hk => ?_) (fun z => ?_)
        · unfold mc_223_99_p61
          dsimp only
          rw [if_pos (qw_ltT R.2.1 hk (by omega)), qs_185 w (by omega) k (by omega), eq1, qb_s]
          refine congrArg Sum.inl (Prod.ext rfl ?_)
          dsimp only
          by_cases c : w.testBit k = true
          · rw [if_pos c, if_neg (show ¬ (1 : Int32) = 0 by decide), if_pos c, nL_m]
          · rw [if_neg c, if_pos (show (0 : Int32) = 0 from rfl), if_neg c]
            exact Int64.mul_one _
        · unfold mc_223_99_p61
          dsimp only
          rw [if_neg (qw_ltF R.2.1 (by omega))]
      unfold mc_223_99_p46
      dsimp only [qa_in]
      rw [qs_190p t6 R.2.1, if_neg (qb_ltF (show w ≤ 2 ^ t - 1 by omega) (by omega)), Z, qs_211 (by omega) B R (show w < 128 by omega), qb_s, eG]
      refine congrArg Sum.inl (Prod.ext rfl ?_)
      dsimp only
      cases qs_Ew n t T o b w
      · exact Int64.add_zero _
      · rw [if_neg (by decide), if_pos rfl, nL_a]
    · unfold mc_223_99_p46
      dsimp only [qa_in]
      rw [qs_190p t6 R.2.1, if_pos (qb_ltT (show 2 ^ t - 1 < 2 ^ t by omega) (by omega))]
  rw [D]
  have E : ∀ z, qa_wh (fun s => s) (mc_223_99_p128 N (nI q) x2 z ρ) N ((0 : Int32), (1 : Int64)) = (nI t, nL (q ^ t)) := fun z => by
    have e : ∀ j, qw_f (fun _ z => z * q) j 1 = q ^ j := by
      intro j
      induction j with
      | zero => rfl
      | succ j ih =>
        show qw_f (fun _ z => z * q) j 1 * q = q ^ (j + 1)
        rw [ih, Nat.pow_succ]
    rw [← e t]
    refine qw_lp (e := fun s => s) (fun k (z : Nat) => (nI k, nL z)) (fun z => (nI t, nL z)) (fun _ z => z * q) t 1 (by omega) (fun k z hk => ?_) (fun z => ?_)
    · unfold mc_223_99_p128
      dsimp only
      rw [if_pos (qw_ltT R.2.1 hk (by omega)), nL_I (by omega), qb_s, nL_m]
    · unfold mc_223_99_p128
      dsimp only
      rw [if_neg (qw_ltF R.2.1 (by omega))]
  rw [E]
end QP
