/-! THE MIXING OF ALL GLASSES, exactly -/
theorem qk_d {j g i : Nat} (h1 : 3 ^ j ≤ g) (h2 : g < 3 ^ (j + 1)) : g / 3 ^ i % 3 = (g - 3 ^ j) / 3 ^ i % 3 + (if i = j then 1 else 0) := by
  have pi : 0 < 3 ^ i := Nat.pow_pos (by omega)
  rcases Nat.lt_trichotomy i j with c | c | c
  · rw [if_neg (by omega)]
    obtain ⟨d, rfl⟩ : ∃ d, j = i + (d + 1) := ⟨j - i - 1, by omega⟩
    have e : 3 ^ (i + (d + 1)) = 3 ^ i * (3 * 3 ^ d) := by rw [Nat.pow_add, Nat.pow_succ, Nat.mul_comm (3 ^ d) 3]
    have e2 : g = (g - 3 ^ (i + (d + 1))) + 3 ^ i * (3 * 3 ^ d) := by omega
    have e3 : g / 3 ^ i = (g - 3 ^ (i + (d + 1))) / 3 ^ i + 3 * 3 ^ d := by
      have := Nat.add_mul_div_left (g - 3 ^ (i + (d + 1))) (3 * 3 ^ d) pi
      rwa [← e2] at this
    rw [e3]
    generalize (g - 3 ^ (i + (d + 1))) / 3 ^ i = A
    generalize 3 ^ d = M
    omega
  · subst c
    rw [if_pos rfl]
    have e2 : g = (g - 3 ^ i) + 3 ^ i * 1 := by omega
    have e3 : g / 3 ^ i = (g - 3 ^ i) / 3 ^ i + 1 := by
      have := Nat.add_mul_div_left (g - 3 ^ i) 1 pi
      rwa [← e2] at this
    have e4 : (g - 3 ^ i) / 3 ^ i < 2 := Nat.div_lt_of_lt_mul (by rw [Nat.pow_succ] at h2; omega)
    rw [e3]
    generalize (g - 3 ^ i) / 3 ^ i = A at e4
    omega
  · rw [if_neg (by omega)]
    have e : 3 ^ (j + 1) ≤ 3 ^ i := Nat.pow_le_pow_right (by omega) (by omega)
    rw [Nat.div_eq_of_lt (by omega), Nat.div_eq_of_lt (by omega)]
theorem qk_sh {n j g c : Nat} (hc : c < n) (hj : j < n) (h1 : 3 ^ j ≤ g) (h2 : g < 3 ^ (j + 1)) : qb_sh n g c = qb_sh n (g - 3 ^ j) c + (if c = n - 1 - j then 1 else 0) := by
  unfold qb_sh
  rw [qk_d (i := n - 1 - c) h1 h2]
  congr 1
  by_cases e : c = n - 1 - j
  · rw [if_pos e, if_pos (by omega)]
  · rw [if_neg e, if_neg (by omega)]
theorem qk_s1 {f g : Nat → Int32} {d : Int32} {c0 : Nat} : ∀ {n : Nat}, (∀ c, c < n → f c = g c + (if c = c0 then d else 0)) → qb_sum f n = qb_sum g n + (if c0 < n then d else 0) := by
  intro n
  induction n with
  | zero => intro _; rfl
  | succ n ih =>
    intro h
    show qb_sum f n + f n = qb_sum g n + g n + _
    rw [ih (fun c hc => h c (by omega)), h n (by omega)]
    by_cases e : n = c0
    · subst e
      rw [if_neg (Nat.lt_irrefl n), if_pos rfl, if_pos (Nat.lt_succ_self n), Int32.add_zero, Int32.add_assoc]
    · rw [if_neg e, Int32.add_zero]
      by_cases l : c0 < n
      · rw [if_pos l, if_pos (show c0 < n + 1 by omega)]
        ac_rfl
      · rw [if_neg l, if_neg (show ¬ c0 < n + 1 by omega), Int32.add_zero, Int32.add_zero]
theorem qk_sI {f : Nat → Nat} : ∀ n, qb_sum (fun c => nI (f c)) n = nI (qs_sm f n) := by
  intro n
  induction n with
  | zero => rfl
  | succ n ih =>
    show qb_sum (fun c => nI (f c)) n + nI (f n) = nI (qs_sm f n + f n)
    rw [ih, qw_add]
section QK1
variable {n j g m : Nat} {T : Nat → Nat → Int32}
theorem qk_pr (hj : j < n) (h1 : 3 ^ j ≤ g) (h2 : g < 3 ^ (j + 1)) : qb_pr n g = qb_pr n (g - 3 ^ j) + 1 := by
  unfold qb_pr
  rw [qk_s1 (g := fun c => nI (qb_sh n (g - 3 ^ j) c)) (d := 1) (c0 := n - 1 - j) (fun c hc => ?_), if_pos (by omega)]
  rw [qk_sh hc hj h1 h2]
  split
  · exact qb_s.symm
  · exact (Int32.add_zero _).symm
theorem qk_ts (hj : j < n) (h1 : 3 ^ j ≤ g) (h2 : g < 3 ^ (j + 1)) : qb_ts T n g m = qb_ts T n (g - 3 ^ j) m + T (n - 1 - j) m := by
  unfold qb_ts
  rw [qk_s1 (g := fun c => nI (qb_sh n (g - 3 ^ j) c) * T c m) (d := T (n - 1 - j) m) (c0 := n - 1 - j) (fun c hc => ?_), if_pos (by omega)]
  rw [qk_sh hc hj h1 h2]
  by_cases e : c = n - 1 - j
  · rw [if_pos e, if_pos e, ← qb_s, Int32.add_mul, Int32.one_mul, e]
  · rw [if_neg e, if_neg e]
    exact (Int32.add_zero _).symm
theorem qk_sh0 {c : Nat} : qb_sh n 0 c = 0 := by unfold qb_sh; rw [Nat.zero_div]
theorem qk_sz : ∀ n, qb_sum (fun _ => (0 : Int32)) n = 0 := by
  intro n
  induction n with
  | zero => rfl
  | succ n ih =>
    show qb_sum (fun _ => (0 : Int32)) n + 0 = 0
    rw [ih]; rfl
theorem qk_pr0 : qb_pr n 0 = 0 := by
  unfold qb_pr
  rw [qb_sumx (g := fun _ => (0 : Int32)) (fun c _ => by rw [qk_sh0]; rfl), qk_sz]
theorem qk_ts0 : qb_ts T n 0 m = 0 := by
  unfold qb_ts
  rw [qb_sumx (g := fun _ => (0 : Int32)) (fun c _ => by rw [qk_sh0, show nI 0 = (0 : Int32) from rfl, Int32.zero_mul]), qk_sz]
def qs_gp (n g : Nat) : Nat := qs_sm (fun c => qb_sh n g c) n
theorem qk_prN : qb_pr n g = nI (qs_gp n g) := qk_sI n
theorem qk_sh2 {c : Nat} : qb_sh n g c ≤ 2 := by unfold qb_sh; omega
theorem qk_gpl (hn : n ≤ 7) : qs_gp n g ≤ 14 := by
  have : qs_gp n g ≤ n * 2 := qs_sml (fun k _ => qk_sh2)
  omega
theorem qk_sge {f : Nat → Nat} {c : Nat} : ∀ {n}, c < n → f c ≤ qs_sm f n := by
  intro n
  induction n with
  | zero => intro h; omega
  | succ n ih =>
    intro h
    show f c ≤ qs_sm f n + f n
    by_cases e : c = n
    · subst e; omega
    · have := ih (by omega); omega
theorem qk_top (h1 : 1 ≤ g) : ∀ n, g < 3 ^ n → ∃ j, j < n ∧ 3 ^ j ≤ g ∧ g < 3 ^ (j + 1) := by
  intro n
  induction n with
  | zero => intro h; rw [Nat.pow_zero] at h; omega
  | succ n ih =>
    intro h
    by_cases c : g < 3 ^ n
    · obtain ⟨j, a, b, d⟩ := ih c
      exact ⟨j, by omega, b, d⟩
    · exact ⟨n, by omega, by omega, h⟩
theorem qk_gp1 (h1 : 1 ≤ g) (h2 : g < 3 ^ n) : 1 ≤ qs_gp n g := by
  obtain ⟨j, a, b, d⟩ := qk_top h1 n h2
  have e := qk_sh (c := n - 1 - j) (by omega) a b d
  rw [if_pos rfl] at e
  have := qk_sge (f := fun c => qb_sh n g c) (c := n - 1 - j) (n := n) (by omega)
  unfold qs_gp
  omega
theorem qk_3n (hn : n ≤ 7) : 3 ^ n ≤ 2187 := Nat.le_trans (Nat.pow_le_pow_right (by omega) hn) (by decide : 3 ^ 7 ≤ 2187)
end QK1
/-- the powers of 3 are where the class reads them, there are 7 casks at most -/
def qk_N (σ : qa_S) : Prop := (∃ n, n ≤ 7 ∧ σ 4 0 = nI n) ∧ ∀ k, k ≤ 7 → σ 1 k = nI (3 ^ k)
theorem qk_dn : ∀ n, n < 8 → ∀ j, j < 8 → (j < n → nI n - nI (j + 1) = nI (n - 1 - j) ∧ nI n - 1 - nI (n - 1 - j) = nI j ∧ ¬ nI n - nI (j + 1) < 0) ∧ nI n - nI (j + 1) + -1 = nI n - nI (j + 1 + 1) ∧ nI n - nI (n + 1) < 0 := by decide +kernel
section QK
variable {n : Nat} {σ τ : qa_S} {N : Nat}
theorem qk_76 {ρ : qa_S} {c g d : Nat} (hN : 5000 ≤ N) (hc : c < 7) (hg : g < 2187) (hd : nI g - nI d = nI (g - d)) (h : g - d < g) : (∀ m, m < 4 → (qa_wh (fun s => s) (mc_73_73_4_p76 N (nI c) (nI d) (nI g)) N ((0 : Int32), ρ)).2 (75 + m) g = ρ (75 + m) (g - d) + ρ (17 + c) m) ∧ qb_F (fun a i => (75 ≤ a ∧ a ≤ 78) ∧ i = g) ρ (qa_wh (fun s => s) (mc_73_73_4_p76 N (nI c) (nI d) (nI g)) N ((0 : Int32), ρ)).2 := by
  refine qb_l0 (fun (k : Nat) (q : Int32 × qa_S) => q.1 = nI k ∧ (∀ m, m < k → q.2 (75 + m) g = ρ (75 + m) (g - d) + ρ (17 + c) m) ∧ qb_F (fun a i => (75 ≤ a ∧ a ≤ 78) ∧ i = g) ρ q.2) (fun (q : Int32 × qa_S) => (∀ m, m < 4 → q.2 (75 + m) g = ρ (75 + m) (g - d) + ρ (17 + c) m) ∧ qb_F (fun a i => (75 ≤ a ∧ a ≤ 78) ∧ i = g) ρ q.2) 4 (by omega) ⟨rfl, fun m hm => by omega, qb_Fr⟩ ?_ ?_
  · rintro k ⟨q1, q2⟩ hk ⟨g1, g2, g3⟩
    dsimp only at g1 g2 g3
    subst g1
    unfold mc_73_73_4_p76
    dsimp only [qa_in]
    rw [if_pos (show nI k < (4 : Int32) from qb_ltT (b := 4) hk (by omega)), hd, qb_n (k := k) (by omega), qb_n (k := c) (by omega), qb_n (k := g) (by omega), qb_n (k := g - d) (by omega), qb_s, g3 (75 + k) (g - d) (by omega), g3 (17 + c) k (by omega)]
    refine ⟨_, rfl, rfl, fun m hm => ?_, fun a i ha => ?_⟩
    · dsimp only
      by_cases e : m = k
      · rw [e, qb_uE]
      · rw [qb_uN (by omega)]; exact g2 m (by omega)
    · dsimp only
      rw [qb_uN (by omega)]; exact g3 a i ha
  · rintro ⟨q1, q2⟩ ⟨g1, g2, g3⟩
    dsimp only at g1 g2 g3
    subst g1
    unfold mc_73_73_4_p76
    dsimp only
    rw [if_neg (show ¬ nI 4 < (4 : Int32) by decide)]
    exact ⟨_, rfl, g2, g3⟩
/-- all sums: the glasses below 3^j done -/
def qk_S (n : Nat) (T : Nat → Nat → Int32) (u : Nat) (ρ : qa_S) : Prop := ∀ g, g < u → ρ 79 g = qb_pr n g ∧ ∀ m, m < 4 → ρ (75 + m) g = qb_ts T n g m
theorem qk_47 {ρ : qa_S} {j : Nat} {T : Nat → Nat → Int32} (hN : 5000 ≤ N) (hn : n ≤ 7) (hj : j < n) (hT : ∀ c m, c < n → m < 4 → ρ (17 + c) m = T c m) (hS : qk_S n T (3 ^ j) ρ) : qk_S n T (3 ^ (j + 1)) (qa_wh (fun s => s) (mc_73_73_4_p47 N (nI (n - 1 - j)) (nI (3 ^ j))) N (nI (3 ^ j), ρ)).2 ∧ qb_F (fun a _ => 75 ≤ a ∧ a ≤ 79) ρ (qa_wh (fun s => s) (mc_73_73_4_p47 N (nI (n - 1 - j)) (nI (3 ^ j))) N (nI (3 ^ j), ρ)).2 := by
  have p0 : 0 < 3 ^ j := Nat.pow_pos (by omega)
  have e3 : 3 ^ (j + 1) = 3 * 3 ^ j := by rw [Nat.pow_succ, Nat.mul_comm]
  have l3 : 3 ^ (j + 1) ≤ 2187 := qk_3n (by omega)
  have m3 : (3 : Int32) * nI (3 ^ j) = nI (3 ^ (j + 1)) := by rw [e3]; exact qw_mul (a := 3)
  refine qb_l0 (fun (k : Nat) (q : Int32 × qa_S) => q.1 = nI (3 ^ j + k) ∧ qk_S n T (3 ^ j + k) q.2 ∧ qb_F (fun a _ => 75 ≤ a ∧ a ≤ 79) ρ q.2) (fun (q : Int32 × qa_S) => qk_S n T (3 ^ (j + 1)) q.2 ∧ qb_F (fun a _ => 75 ≤ a ∧ a ≤ 79) ρ q.2) (2 * 3 ^ j) (by omega) ⟨rfl, hS, qb_Fr⟩ ?_ ?_
  · rintro k ⟨q1, q2⟩ hk ⟨g1, g2, g3⟩
    dsimp only at g1 g2 g3
    subst g1
    have hd : nI (3 ^ j + k) - nI (3 ^ j) = nI (3 ^ j + k - 3 ^ j) := qw_sub (by omega)
    have ek : 3 ^ j + k - 3 ^ j = k := by omega
    unfold mc_73_73_4_p47
    dsimp only [qa_in]
    rw [m3, if_pos (qb_ltT (show 3 ^ j + k < 3 ^ (j + 1) by omega) (by omega)), hd, qb_n (k := 3 ^ j + k - 3 ^ j) (by omega), qb_n (k := 3 ^ j + k) (by omega), qb_s]
    obtain ⟨μ, eμ⟩ : ∃ μ, μ = qa_u q2 79 (3 ^ j + k) (q2 79 (3 ^ j + k - 3 ^ j) + 1) := ⟨_, rfl⟩
    rw [← eμ]
    obtain ⟨a1, a2⟩ := qk_76 (ρ := μ) (c := n - 1 - j) (g := 3 ^ j + k) (d := 3 ^ j) hN (by omega) (by omega) hd (by omega)
    obtain ⟨ν, eν⟩ : ∃ ν, ν = (qa_wh (fun s => s) (mc_73_73_4_p76 N (nI (n - 1 - j)) (nI (3 ^ j)) (nI (3 ^ j + k))) N ((0 : Int32), μ)).2 := ⟨_, rfl⟩
    rw [← eν] at a1 a2 ⊢
    refine ⟨_, rfl, rfl, fun g hg => ?_, fun a i ha => ?_⟩
    · dsimp only
      by_cases e : g = 3 ^ j + k
      · subst e
        obtain ⟨s1, s2⟩ := g2 k (by omega)
        refine ⟨?_, fun m hm => ?_⟩
        · rw [a2 79 _ (by omega), eμ, qb_uE, ek, s1, qk_pr hj (by omega) (show 3 ^ j + k < 3 ^ (j + 1) by omega), ek]
        · rw [a1 m hm, eμ, qb_uN (by omega), qb_uN (by omega), ek, s2 m hm, g3 (17 + (n - 1 - j)) m (by omega), hT (n - 1 - j) m (by omega) hm, qk_ts hj (by omega) (show 3 ^ j + k < 3 ^ (j + 1) by omega), ek]
      · obtain ⟨s1, s2⟩ := g2 g (by omega)
        refine ⟨?_, fun m hm => ?_⟩
        · rw [a2 79 _ (by omega), eμ, qb_uN (by omega)]; exact s1
        · rw [a2 (75 + m) _ (by omega), eμ, qb_uN (by omega)]; exact s2 m hm
    · dsimp only
      rw [a2 a i (by omega), eμ, qb_uN (by omega)]; exact g3 a i ha
  · rintro ⟨q1, q2⟩ ⟨g1, g2, g3⟩
    dsimp only at g1 g2 g3
    subst g1
    unfold mc_73_73_4_p47
    dsimp only
    rw [m3, if_neg (qb_ltF (show 3 ^ (j + 1) ≤ 3 ^ j + 2 * 3 ^ j by omega) (by omega))]
    refine ⟨_, rfl, ?_, g3⟩
    rw [show 3 ^ (j + 1) = 3 ^ j + 2 * 3 ^ j by omega]
    exact g2
/-- the sums cut -/
def qk_C (n : Nat) (T : Nat → Nat → Int32) (u : Nat) (ρ : qa_S) : Prop := ∀ g, 1 ≤ g → g < 3 ^ n → ρ 79 g = qb_pr n g ∧ ∀ m, m < 4 → ρ (75 + m) g = if g < u then qb_gl T n g m else qb_ts T n g m
theorem qk_74 {ρ : qa_S} {T : Nat → Nat → Int32} (hN : 5000 ≤ N) (hn : n ≤ 7) (h1 : ρ 73 1 = nI (3 ^ n)) (hS : qk_S n T (3 ^ n) ρ) : (∀ g, 1 ≤ g → g < 3 ^ n → ma_74_73 N ρ 79 g = qb_pr n g ∧ ∀ m, m < 4 → ma_74_73 N ρ (75 + m) g = qb_gl T n g m) ∧ qb_F (fun a j => (75 ≤ a ∧ a ≤ 78) ∧ 1 ≤ j) ρ (ma_74_73 N ρ) := by
  have l3 : 3 ^ n ≤ 2187 := qk_3n hn
  have p0 : 0 < 3 ^ n := Nat.pow_pos (by omega)
  unfold ma_74_73
  dsimp only [qa_in]
  refine qb_l0 (fun (k : Nat) (q : Int32 × qa_S) => q.1 = nI (1 + k) ∧ qk_C n T (1 + k) q.2 ∧ qb_F (fun a j => (75 ≤ a ∧ a ≤ 78) ∧ 1 ≤ j) ρ q.2) (fun (q : Int32 × qa_S) => (∀ g, 1 ≤ g → g < 3 ^ n → q.2 79 g = qb_pr n g ∧ ∀ m, m < 4 → q.2 (75 + m) g = qb_gl T n g m) ∧ qb_F (fun a j => (75 ≤ a ∧ a ≤ 78) ∧ 1 ≤ j) ρ q.2) (3 ^ n - 1) (by omega) ⟨rfl, fun g ga gb => ⟨(hS g gb).1, fun m hm => by rw [if_neg (by omega)]; exact (hS g gb).2 m hm⟩, qb_Fr⟩ ?_ ?_
  · rintro k ⟨q1, q2⟩ hk ⟨g1, g2, g3⟩
    dsimp only at g1 g2 g3
    subst g1
    unfold mc_74_73_p2
    dsimp only [qa_in]
    obtain ⟨s1, s2⟩ := g2 (1 + k) (by omega) (by omega)
    have gp1 : 1 ≤ qs_gp n (1 + k) := qk_gp1 (by omega) (by omega)
    have gpl := qk_gpl (g := 1 + k) hn
    rw [if_pos (show nI (1 + k) < q2 73 1 by rw [g3 73 1 (by omega), h1]; exact qb_ltT (by omega) (by omega)), qb_n (k := 1 + k) (by omega), s1, qk_prN, qb_s]
    have A : (fun (ν : qa_S) => (∀ m, m < 4 → ν (75 + m) (1 + k) = qb_gl T n (1 + k) m) ∧ qb_F (fun a i => (75 ≤ a ∧ a ≤ 78) ∧ i = 1 + k) q2 ν) (qa_wh (fun s => s) (mc_74_73_p19 N (nI (1 + k)) (nI (qs_gp n (1 + k)))) N ((0 : Int32), q2)).2 := by
      refine qb_l0 (fun (i : Nat) (q : Int32 × qa_S) => q.1 = nI i ∧ (∀ m, m < i → q.2 (75 + m) (1 + k) = qb_gl T n (1 + k) m) ∧ (∀ m, i ≤ m → m < 4 → q.2 (75 + m) (1 + k) = qb_ts T n (1 + k) m) ∧ qb_F (fun a i => (75 ≤ a ∧ a ≤ 78) ∧ i = 1 + k) q2 q.2) (fun (q : Int32 × qa_S) => (∀ m, m < 4 → q.2 (75 + m) (1 + k) = qb_gl T n (1 + k) m) ∧ qb_F (fun a i => (75 ≤ a ∧ a ≤ 78) ∧ i = 1 + k) q2 q.2) 4 (by omega) ⟨rfl, fun m hm => by omega, fun m _ hm => by have := s2 m hm; rw [if_neg (by omega)] at this; exact this, qb_Fr⟩ ?_ ?_
      · rintro i ⟨r1, r2⟩ hi ⟨f1, f2, f3, f4⟩
        dsimp only at f1 f2 f3 f4
        subst f1
        unfold mc_74_73_p19
        dsimp only [qa_in]
        rw [if_pos (show nI i < (4 : Int32) from qb_ltT (b := 4) hi (by omega)), if_pos (show (0 : Int32) < nI (qs_gp n (1 + k)) from qb_ltT (a := 0) (by omega) (by omega)), qb_n (k := i) (by omega), qb_n (k := 1 + k) (by omega), qb_s, f3 i (Nat.le_refl i) hi]
        refine ⟨_, rfl, rfl, fun m hm => ?_, fun m h1 h2 => ?_, fun a j ha => ?_⟩
        · dsimp only
          by_cases e : m = i
          · rw [e, qb_uE]; unfold qb_gl; rw [qk_prN]
          · rw [qb_uN (by omega)]; exact f2 m (by omega)
        · dsimp only
          rw [qb_uN (by omega)]; exact f3 m (by omega) h2
        · dsimp only
          rw [qb_uN (by omega)]; exact f4 a j ha
      · rintro ⟨r1, r2⟩ ⟨f1, f2, f3, f4⟩
        dsimp only at f1 f2 f3 f4
        subst f1
        unfold mc_74_73_p19
        dsimp only
        rw [if_neg (show ¬ nI 4 < (4 : Int32) by decide)]
        exact ⟨_, rfl, f2, f4⟩
    obtain ⟨ν, eν⟩ : ∃ ν, ν = (qa_wh (fun s => s) (mc_74_73_p19 N (nI (1 + k)) (nI (qs_gp n (1 + k)))) N ((0 : Int32), q2)).2 := ⟨_, rfl⟩
    rw [← eν] at A ⊢
    obtain ⟨a1, a2⟩ := A
    refine ⟨_, rfl, rfl, fun g ga gb => ?_, fun a i ha => ?_⟩
    · dsimp only
      obtain ⟨t1, t2⟩ := g2 g ga gb
      refine ⟨(a2 79 g (by omega)).trans t1, fun m hm => ?_⟩
      by_cases e : g = 1 + k
      · subst e
        rw [if_pos (by omega)]; exact a1 m hm
      · rw [a2 (75 + m) g (by omega), t2 m hm]
        by_cases l : g < 1 + k
        · rw [if_pos l, if_pos (by omega)]
        · rw [if_neg l, if_neg (by omega)]
    · dsimp only
      rw [a2 a i (by omega)]; exact g3 a i ha
  · rintro ⟨q1, q2⟩ ⟨g1, g2, g3⟩
    dsimp only at g1 g2 g3
    subst g1
    unfold mc_74_73_p2
    dsimp only
    rw [if_neg (show ¬ nI (1 + (3 ^ n - 1)) < q2 73 1 by rw [g3 73 1 (by omega), h1]; exact qb_ltF (by omega) (by omega))]
    refine ⟨_, rfl, fun g ga gb => ?_, g3⟩
    obtain ⟨t1, t2⟩ := g2 g ga gb
    refine ⟨t1, fun m hm => ?_⟩
    dsimp only
    rw [t2 m hm, if_pos (by omega)]
theorem qk_73 (hN : 5000 ≤ N) (hn : n ≤ 7) (h4 : σ 4 0 = nI n) (h3 : ∀ k, k ≤ 7 → σ 1 k = nI (3 ^ k)) (h0 : qb_Z0 σ) : ma_73_73_4 N σ 73 0 = nI n ∧ ma_73_73_4 N σ 73 1 = nI (3 ^ n) ∧ (∀ g, 1 ≤ g → g < 3 ^ n → ma_73_73_4 N σ 79 g = qb_pr n g ∧ ∀ m, m < 4 → ma_73_73_4 N σ (75 + m) g = qb_gl (fun c m => σ (17 + c) m) n g m) ∧ qb_Z0 (ma_73_73_4 N σ) ∧ qb_F (fun a _ => a = 73 ∨ (75 ≤ a ∧ a ≤ 79)) σ (ma_73_73_4 N σ) := by
  unfold ma_73_73_4
  dsimp only [qa_in]
  obtain ⟨μ, eμ⟩ : ∃ μ, μ = qa_u (qa_u σ 73 0 (σ 4 0)) 73 1 (qa_u σ 73 0 (σ 4 0) 1 (qa_u σ 73 0 (σ 4 0) 73 0).toNatClampNeg) := ⟨_, rfl⟩
  rw [← eμ]
  have μ0 : μ 73 0 = nI n := by rw [eμ, qb_uN (by omega), qb_uE]; exact h4
  have μ1 : μ 73 1 = nI (3 ^ n) := by rw [eμ, qb_uE, qb_uE, h4, qb_n (by omega), qb_uN (by omega)]; exact h3 n hn
  have μF : qb_F (fun a _ => a = 73) σ μ := fun a j h => by rw [eμ, qb_uN (by omega), qb_uN (by omega)]
  have A : (fun (ρ : qa_S) => qk_S n (fun c m => σ (17 + c) m) (3 ^ n) ρ ∧ qb_F (fun a _ => 75 ≤ a ∧ a ≤ 79) μ ρ) (qa_wh (fun s => s) (mc_73_73_4_p27 N) N (nI n - 1, μ)).2 := by
    refine qb_l0 (fun (j : Nat) (q : Int32 × qa_S) => q.1 = nI n - nI (j + 1) ∧ qk_S n (fun c m => σ (17 + c) m) (3 ^ j) q.2 ∧ qb_F (fun a _ => 75 ≤ a ∧ a ≤ 79) μ q.2) (fun (q : Int32 × qa_S) => qk_S n (fun c m => σ (17 + c) m) (3 ^ n) q.2 ∧ qb_F (fun a _ => 75 ≤ a ∧ a ≤ 79) μ q.2) n (by omega) ⟨rfl, fun g hg => ?_, qb_Fr⟩ ?_ ?_
    · have e : g = 0 := by rw [Nat.pow_zero] at hg; omega
      subst e
      refine ⟨?_, fun m hm => ?_⟩
      · dsimp only
        rw [μF 79 0 (by omega), h0 79 (by omega) (by omega), qk_pr0]
      · dsimp only
        rw [μF (75 + m) 0 (by omega), h0 (75 + m) (by omega) (by omega), qk_ts0]
    · rintro j ⟨q1, q2⟩ hj ⟨g1, g2, g3⟩
      dsimp only at g1 g2 g3
      subst g1
      obtain ⟨d1, d2, d3⟩ := (qk_dn n (by omega) j (by omega)).1 hj
      have d4 := (qk_dn n (by omega) j (by omega)).2.1
      unfold mc_73_73_4_p27
      dsimp only [qa_in]
      have s0 : q2 73 0 = nI n := (g3 73 0 (by omega)).trans μ0
      have s1 : q2 1 j = nI (3 ^ j) := by rw [g3 1 j (by omega), μF 1 j (by omega)]; exact h3 j (by omega)
      rw [if_neg d3, d4, d1, s0, d2, qb_n (k := j) (by omega), s1]
      obtain ⟨b1, b2⟩ := qk_47 (ρ := q2) (j := j) (T := fun c m => σ (17 + c) m) hN hn hj (fun c m hc hm => by rw [g3 (17 + c) m (by omega), μF (17 + c) m (by omega)]) g2
      exact ⟨_, rfl, rfl, b1, qb_Ft g3 b2 (fun _ _ h => h) (fun _ _ h => h)⟩
    · rintro ⟨q1, q2⟩ ⟨g1, g2, g3⟩
      dsimp only at g1 g2 g3
      subst g1
      unfold mc_73_73_4_p27
      dsimp only
      rw [if_pos (qk_dn n (by omega) 0 (by omega)).2.2]
      exact ⟨_, rfl, g2, g3⟩
  rw [μ0]
  obtain ⟨ρ, eρ⟩ : ∃ ρ, ρ = (qa_wh (fun s => s) (mc_73_73_4_p27 N) N (nI n - 1, μ)).2 := ⟨_, rfl⟩
  rw [← eρ] at A ⊢
  obtain ⟨A1, A2⟩ := A
  obtain ⟨C1, C2⟩ := qk_74 (ρ := ρ) (T := fun c m => σ (17 + c) m) hN hn ((A2 73 1 (by omega)).trans μ1) A1
  have Z : ∀ a, 75 ≤ a → a ≤ 79 → ρ a 0 = 0 := fun a ha hb => by
    obtain ⟨z1, z2⟩ := A1 0 (Nat.pow_pos (by omega))
    by_cases e : a = 79
    · rw [e, z1, qk_pr0]
    · have := z2 (a - 75) (by omega)
      rw [show 75 + (a - 75) = a by omega, qk_ts0] at this
      exact this
  refine ⟨?_, ?_, C1, fun a ha hb => ?_, fun a j h => ?_⟩
  · rw [C2 73 0 (by omega), A2 73 0 (by omega)]; exact μ0
  · rw [C2 73 1 (by omega), A2 73 1 (by omega)]; exact μ1
  · rw [C2 a 0 (by omega)]; exact Z a ha hb
  · rw [C2 a j (by omega), A2 a j (by omega)]; exact μF a j (by omega)
/-- the class has all glasses mixed -/
theorem qk_72 (hN : 5000 ≤ N) (hn : qk_N σ) (hQ : qb_iQ σ) : qb_iQ (ma_72_3 N σ) ∧ ma_72_3 N σ 3 18 = 0 ∧ qb_F (fun a j => (a = 3 ∧ j = 18) ∨ a = 73 ∨ (75 ≤ a ∧ a ≤ 79)) σ (ma_72_3 N σ) := by
  obtain ⟨⟨n, n7, h4⟩, h3⟩ := hn
  unfold ma_72_3
  dsimp only [qa_in]
  by_cases c : σ 3 18 = 0
  · rw [if_pos c]
    exact ⟨hQ, c, qb_Fr⟩
  · rw [if_neg c]
    obtain ⟨a1, a2, a3, a4, a5⟩ := qk_73 (N := N) hN n7 h4 h3 hQ.1
    obtain ⟨μ, eμ⟩ : ∃ μ, μ = ma_73_73_4 N σ := ⟨_, rfl⟩
    rw [← eμ] at a1 a2 a3 a4 a5 ⊢
    have uF : qb_F (fun a j => a = 3 ∧ j = 18) μ (qa_u μ 3 18 0) := qb_Fu ⟨rfl, rfl⟩
    refine ⟨⟨fun a ha hb => (uF a 0 (by omega)).trans (a4 a ha hb), fun _ n' n7' hc => ?_⟩, qb_uE, qb_Ft a5 uF (fun a j h => by omega) (fun a j h => by omega)⟩
    have e : n' = n := by
      rw [uF 4 0 (by omega), a5 4 0 (by omega), h4] at hc
      exact ((qb_eq (by omega) (by omega)).mp hc).symm
    subst e
    refine ⟨(uF 73 0 (by omega)).trans a1, (uF 73 1 (by omega)).trans a2, fun g ga gb => ⟨(uF 79 g (by omega)).trans (a3 g ga gb).1, fun m hm => ?_⟩⟩
    rw [uF (75 + m) g (by omega), (a3 g ga gb).2 m hm]
    exact qb_glx (fun c hc => ((uF (17 + c) m (by omega)).trans (a5 (17 + c) m (by omega))).symm)
end QK
