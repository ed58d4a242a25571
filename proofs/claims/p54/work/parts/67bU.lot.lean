/-! lots -/
/-- the next seed, what is drawn by it -/
def qv_sd (z : Int32) : Int32 := z * 1103515245 + 12345
def qv_it : Nat → Int32 → Int32
  | 0, z => z
  | k + 1, z => qv_sd (qv_it k z)
def qv_dr (z : Int32) : Nat := (z &&& 2147483647).toInt.toNat / 65536 % 3
theorem qv_drI (z : Int32) : ((z &&& 2147483647) / 65536 - (z &&& 2147483647) / 65536 / 3 * 3) = nI (qv_dr z) := by
  have h := q53_andr (x := z) (y := 2147483647) (by decide)
  have e : (2147483647 : Int32).toInt = 2147483647 := by decide
  obtain ⟨v, ev⟩ : ∃ v, v = (z &&& 2147483647).toInt.toNat := ⟨_, rfl⟩
  have hv : v < 2147483648 := by omega
  have e0 : (z &&& 2147483647) = nI v := by rw [ev]; exact q53_nI (by omega)
  unfold qv_dr
  rw [← ev, e0, show (65536 : Int32) = nI 65536 from rfl, qw_div hv (by omega) (by omega), show (3 : Int32) = nI 3 from rfl, qw_div (by omega) (by omega) (by omega), qw_mul, qw_sub (by omega)]
  exact congrArg nI (by omega)
/-- a glass's number by its shares -/
def qv_dn (d : Nat → Nat) : Nat → Nat
  | 0 => 0
  | k + 1 => 3 * qv_dn d k + d k
theorem qv_dnl {d : Nat → Nat} (hd : ∀ c, d c ≤ 2) : ∀ n, qv_dn d n < 3 ^ n := by
  intro n
  induction n with
  | zero => exact Nat.one_pos
  | succ n ih =>
    have e : 3 ^ (n + 1) = 3 * 3 ^ n := by rw [Nat.pow_succ, Nat.mul_comm]
    have := hd n
    show 3 * qv_dn d n + d n < 3 ^ (n + 1)
    omega
theorem qv_dns {d : Nat → Nat} (hd : ∀ c, d c ≤ 2) : ∀ n c, c < n → qb_sh n (qv_dn d n) c = d c := by
  intro n
  induction n with
  | zero => intro c hc; omega
  | succ n ih =>
    intro c hc
    have h2 := hd n
    show (3 * qv_dn d n + d n) / 3 ^ (n + 1 - 1 - c) % 3 = d c
    by_cases e : c = n
    · subst e
      rw [show c + 1 - 1 - c = 0 by omega, Nat.pow_zero, Nat.div_one]
      omega
    · have e2 : n + 1 - 1 - c = (n - 1 - c) + 1 := by omega
      have e3 : 3 ^ ((n - 1 - c) + 1) = 3 * 3 ^ (n - 1 - c) := by rw [Nat.pow_succ, Nat.mul_comm]
      rw [e2, e3, ← Nat.div_div_eq_div_mul, show (3 * qv_dn d n + d n) / 3 = qv_dn d n by omega]
      exact ih c (by omega)
section QV9
variable {n t : Nat} {x s : Nat → Nat} {T : Nat → Nat → Nat} {o b : Nat → Nat} {σ τ : qa_S} {N : Nat}
/-- the shares drawn from a seed on -/
def qv_d (z : Int32) (c : Nat) : Nat := qv_dr (qv_it (c + 1) z)
theorem qv_d2 {z : Int32} : ∀ c, qv_d z c ≤ 2 := fun c => by unfold qv_d qv_dr; omega
/-- how many fit a glass drawn -/
def qv_f (n t : Nat) (T : Nat → Nat → Nat) (o b : Nat → Nat) (z : Int32) : Int32 := if qv_dn (qv_d z) n = 0 then 0 else nI (qs_cn n (qs_fb n t T o b (qs_X n T (qv_dn (qv_d z) n)) (2 ^ t - 1)))
theorem qv_63 {z l1 l3 l5 l6 l7 : Int32} (hN : 10 ≤ N) (hn : n ≤ 7) (h0 : σ 4 0 = nI n) : qa_wh (fun s => s) (mc_143_3_p63 N l1 l3 l5 l6 l7 σ) N ((0 : Int32), z, (0 : Int32)) = (nI n, qv_it n z, nI (qv_dn (qv_d z) n)) := by
  refine qb_l0 (fun (c : Nat) (q : Int32 × Int32 × Int32) => q = (nI c, qv_it c z, nI (qv_dn (qv_d z) c))) (fun q => q = (nI n, qv_it n z, nI (qv_dn (qv_d z) n))) n (by omega) rfl (fun c q hc hq => ?_) (fun q hq => ?_)
  · subst hq
    unfold mc_143_3_p63
    dsimp only
    have e : qv_it c z * (1103515245 : Int32) + 12345 = qv_it (c + 1) z := rfl
    rw [if_pos (qw_ltT h0 hc (by omega)), e, qv_drI, show (3 : Int32) * nI (qv_dn (qv_d z) c) = nI (3 * qv_dn (qv_d z) c) from qw_mul (a := 3), qw_add, qb_s]
    exact ⟨_, rfl, rfl⟩
  · subst hq
    unfold mc_143_3_p63
    dsimp only
    rw [if_neg (qw_ltF h0 (by omega))]
    exact ⟨_, rfl, rfl⟩
theorem qv_144 {g : Nat} (hN : 5000 ≤ N) (hB : qv_B n t s T o b) (hC : qv_C n t s T o b σ) (hk : qk_M σ) (hg : g < 3 ^ n) : (ma_144_3 N (nI g) σ).1 = (if g = 0 then 0 else nI (qs_cn n (qs_fb n t T o b (qs_X n T g) (2 ^ t - 1)))) ∧ qv_C n t s T o b (ma_144_3 N (nI g) σ).2 ∧ qk_M (ma_144_3 N (nI g) σ).2 := by
  have n7 := hB.1
  have t6 := hB.2.1
  have w64 := qs_2t t6
  have p2 := Nat.two_pow_pos t
  have l3 := qk_3n n7
  unfold ma_144_3
  dsimp only [qa_in]
  by_cases g0 : g = 0
  · rw [if_pos g0, if_pos (show nI g < (1 : Int32) by rw [g0]; decide)]
    exact ⟨rfl, hC, hk⟩
  rw [if_neg g0, if_neg (show ¬ nI g < (1 : Int32) from qb_ltF (b := 1) (by omega) (by omega))]
  obtain ⟨Q, z, F3⟩ := qk_72 (N := N) hN hk.1 hk.2
  have C1 := qv_CF F3 (fun a j h c => by omega) hC n7
  have M1 := qk_mm (N := N) hN σ hk
  have V := qs_V1 hB C1 Q z
  obtain ⟨μ, eμ⟩ : ∃ μ, μ = ma_72_3 N σ := ⟨_, rfl⟩
  rw [← eμ] at z C1 M1 V ⊢
  rw [if_pos (qw_ltT V.2.1 hg (by omega))]
  have A : (fun (ν : qa_S) => (∀ m, m < 4 → ν 95 m = nI (qs_X n T g m)) ∧ qb_F (fun a _ => a = 95) μ ν) (qa_wh (fun s => s) (mc_144_3_p20 N (nI g)) N ((0 : Int32), μ)).2 := by
    refine qb_l0 (fun (k : Nat) (q : Int32 × qa_S) => q.1 = nI k ∧ (∀ m, m < k → q.2 95 m = nI (qs_X n T g m)) ∧ qb_F (fun a _ => a = 95) μ q.2) (fun (q : Int32 × qa_S) => (∀ m, m < 4 → q.2 95 m = nI (qs_X n T g m)) ∧ qb_F (fun a _ => a = 95) μ q.2) 4 (by omega) ⟨rfl, fun m hm => by omega, qb_Fr⟩ ?_ ?_
    · rintro k ⟨q1, q2⟩ hk ⟨g1, g2, g3⟩
      dsimp only at g1 g2 g3
      subst g1
      unfold mc_144_3_p20
      dsimp only [qa_in]
      rw [if_pos (show nI k < (4 : Int32) from qb_ltT (b := 4) hk (by omega)), qk_72i ((g3 3 18 (by omega)).trans z), qb_n (k := k) (by omega), qb_n (k := g) (by omega), g3 (75 + k) g (by omega), (V.2.2 g (by omega) hg).2 k hk, qb_s]
      refine ⟨_, rfl, rfl, fun m hm => ?_, fun a i ha => ?_⟩
      · dsimp only
        rw [qb_uJ]
        by_cases e : m = k
        · rw [if_pos e, e]
        · rw [if_neg e]; exact g2 m (by omega)
      · dsimp only
        rw [qb_uA ha]; exact g3 a i ha
    · rintro ⟨q1, q2⟩ ⟨g1, g2, g3⟩
      dsimp only at g1 g2 g3
      subst g1
      unfold mc_144_3_p20
      dsimp only
      rw [if_neg (show ¬ nI 4 < (4 : Int32) by decide)]
      exact ⟨_, rfl, g2, g3⟩
  obtain ⟨ν, eν⟩ : ∃ ν, ν = (qa_wh (fun s => s) (mc_144_3_p20 N (nI g)) N ((0 : Int32), μ)).2 := ⟨_, rfl⟩
  rw [← eν] at A ⊢
  obtain ⟨A1, A2⟩ := A
  have C2 := qv_CF A2 (fun a j h c => by omega) C1 n7
  have M2 : qk_M ν := qk_MF A2 (fun a j r => by unfold qb_rQ at r; omega) M1
  have x6 : ∀ m, m < 4 → qs_X n T g m < 1000000 := fun m hm => by have := qs_Xl (g := g) hB hm; omega
  rw [qs_60p t6 C2.2.1]
  obtain ⟨⟨C3, V3, W3, M3, -⟩, -⟩ := qs_ax (N := N) (w := 2 ^ t - 1) (a2 := 95) (x := qs_X n T g) hN hB C2 M2 (Or.inr rfl) (by omega) (fun m hm => ⟨A1 m hm, x6 m hm⟩)
  exact ⟨qs_75 hN hB V3 W3 x6, C3, M3⟩
theorem qv_64 {z l1 l3 l6 l7 l8 : Int32} (hN : 10 ≤ N) (hn : n ≤ 7) (hP : qv_P n t s T o b τ) : ∃ m, qa_wh (fun s => s) (mc_250_99_p64 N l1 l3 l6 l7 l8) N ((0 : Int32), z, (0 : Int32), τ) = (nI n, qv_it n z, nI (qs_sm (qv_d z) n), m) ∧ qv_P n t (fun c => if c < n then qv_d z c else s c) T o b m := by
  obtain ⟨m, e1, e2, e3⟩ : ∃ m, qa_wh (fun s => s) (mc_250_99_p64 N l1 l3 l6 l7 l8) N ((0 : Int32), z, (0 : Int32), τ) = (nI n, qv_it n z, nI (qs_sm (qv_d z) n), m) ∧ (∀ c, c < 7 → m 103 c = nI (if c < n then qv_d z c else s c)) ∧ qb_F (fun a _ => a = 103) τ m := by
    refine qb_l0 (fun (k : Nat) (q : Int32 × Int32 × Int32 × qa_S) => ∃ m, q = (nI k, qv_it k z, nI (qs_sm (qv_d z) k), m) ∧ (∀ c, c < 7 → m 103 c = nI (if c < k then qv_d z c else s c)) ∧ qb_F (fun a _ => a = 103) τ m) (fun (q : Int32 × Int32 × Int32 × qa_S) => ∃ m, q = (nI n, qv_it n z, nI (qs_sm (qv_d z) n), m) ∧ (∀ c, c < 7 → m 103 c = nI (if c < n then qv_d z c else s c)) ∧ qb_F (fun a _ => a = 103) τ m) n (by omega) ⟨τ, rfl, fun c hc => by rw [if_neg (Nat.not_lt_zero c)]; exact hP.2.2.1 c hc, qb_Fr⟩ (fun k q hk hq => ?_) (fun q hq => ?_)
    · obtain ⟨m, rfl, h1, h2⟩ := hq
      unfold mc_250_99_p64
      dsimp only [qa_in]
      have e : qv_it k z * (1103515245 : Int32) + 12345 = qv_it (k + 1) z := rfl
      rw [if_pos (show nI k < m 99 0 by rw [h2 99 0 (by omega), hP.1]; exact qb_ltT hk (by omega)), e, qv_drI, qb_n (k := k) (by omega), qb_uE, qw_add, qb_s]
      refine ⟨_, rfl, _, rfl, fun c hc => ?_, fun a i ha => ?_⟩
      · rw [qb_uJ]
        by_cases e : c = k
        · rw [if_pos e, if_pos (show c < k + 1 by omega), e]; rfl
        · rw [if_neg e, h1 c hc]
          by_cases l : c < k
          · rw [if_pos l, if_pos (show c < k + 1 by omega)]
          · rw [if_neg l, if_neg (show ¬ c < k + 1 by omega)]
      · rw [qb_uA ha]; exact h2 a i ha
    · obtain ⟨m, rfl, h1, h2⟩ := hq
      unfold mc_250_99_p64
      dsimp only [qa_in]
      rw [if_neg (show ¬ nI n < m 99 0 by rw [h2 99 0 (by omega), hP.1]; exact qb_ltF (Nat.le_refl _) (by omega))]
      exact ⟨_, rfl, m, rfl, h1, h2⟩
  refine ⟨m, e1, ?_⟩
  obtain ⟨c1, c2, c3, c4, c5⟩ := hP
  refine ⟨(e3 _ _ (by omega)).trans c1, (e3 _ _ (by omega)).trans c2, e2, fun j hj => ⟨(e3 _ _ (by omega)).trans (c4 j hj).1, (e3 _ _ (by omega)).trans (c4 j hj).2⟩, fun c m' hc hm => ?_⟩
  rw [← c5 c m' hc hm]
  exact qb_Tx (n := n) (fun c _ => e3 _ _ (by omega)) (fun c _ => e3 _ _ (by omega)) (fun c m _ _ => e3 _ _ (by omega)) c m' hc hm
theorem qv_sm0 {z : Int32} : qs_sm (qv_d z) n = 0 ↔ qv_dn (qv_d z) n = 0 := by
  have e : qs_sm (qv_d z) n = qs_gp n (qv_dn (qv_d z) n) := qs_smx (fun c hc => (qv_dns qv_d2 n c hc).symm)
  rw [e]
  constructor
  · intro h
    by_cases c : 1 ≤ qv_dn (qv_d z) n
    · have := qk_gp1 c (qv_dnl qv_d2 n); omega
    · omega
  · intro h
    rw [h]
    have : qs_gp n 0 ≤ n * 0 := qs_sml (fun c hc => by rw [qk_sh0]; exact Nat.le_refl 0)
    omega
theorem qc_143 {xx : Prop} (hN : 5000 ≤ N) (hI : qb_I xx True σ) (hk : qk_M σ) (x1 x2 x3 : Int32) : (ma_143_3 N x1 x2 x3 σ).1 = (ma_250_99 N x1 x2 x3 (ma_143_3 N x1 x2 x3 σ).2).1 := by
  obtain ⟨n, t, s, T, o, b, B, C, P⟩ := qv_get hI
  have F : qb_F qb_sm2 σ (ma_143_3 N x1 x2 x3 σ).2 := mf_143_3 qb_hw (qb_hm (by omega)) qb_Fr
  suffices h : ∃ v, (ma_143_3 N x1 x2 x3 σ).1 = v ∧ ∀ τ, qv_P n t s T o b (qa_u τ 99 9 0) → (ma_250_99 N x1 x2 x3 τ).1 = v by
    obtain ⟨v, h1, h2⟩ := h
    exact h1.trans (h2 _ (qv_P2 F P)).symm
  have n7 := B.1
  have t6 := B.2.1
  have l3 := qk_3n n7
  have r1 : ∀ z : Int32, z < 0 → ma_201 z x3 1 = z := fun z hz => by
    unfold ma_201
    rw [if_neg (fun c => by rw [c] at hz; exact absurd hz (by decide))]
  have m4 : (-4 : Int32) < 0 := by decide
  have m6 : (-6 : Int32) < 0 := by decide
  unfold ma_143_3 ma_250_99
  dsimp only [qa_in]
  by_cases c1 : x1 < 1
  · rw [if_pos c1, qb_9_4]
    exact ⟨_, rfl, fun τ hP => by rw [show ma_175 x1 1 20 = -4 from if_pos c1, r1 _ m4, if_pos m4]; rfl⟩
  rw [if_neg c1]
  by_cases c2 : 20 < x1
  · rw [if_pos c2, qb_9_6]
    exact ⟨_, rfl, fun τ hP => by rw [show ma_175 x1 1 20 = -6 from (if_neg c1).trans (if_pos c2), r1 _ m6, if_pos m6]; rfl⟩
  rw [if_neg c2]
  rcases qb_201 (x2 := x3) with ⟨w1, w2⟩ | ⟨w1, w2⟩
  · rw [if_pos w1, qb_9_2]
    exact ⟨_, rfl, fun τ hP => by
      rw [show ma_175 x1 1 20 = 0 from (if_neg c1).trans (if_neg c2), w2, if_pos (show (-2 : Int32) < 0 by decide)]; rfl⟩
  rw [if_neg w1]
  have e175 : ma_175 x1 1 20 = 0 := (if_neg c1).trans (if_neg c2)
  obtain ⟨q, q1, q2, rfl⟩ : ∃ q, 1 ≤ q ∧ q ≤ 20 ∧ x1 = nI q := by
    rw [Int32.lt_iff_toInt_lt, show (1 : Int32).toInt = 1 by decide] at c1
    rw [Int32.lt_iff_toInt_lt, show (20 : Int32).toInt = 20 by decide] at c2
    exact ⟨x1.toInt.toNat, by omega, by omega, q53_nI (by omega)⟩
  obtain ⟨G, eG⟩ : ∃ G : Nat → Int32 × Int32 × Int32 → Int32 × Int32 × Int32, G = fun _ a => (qv_it n a.1, a.2.1 + qv_f n t T o b a.1, a.2.2 + (if qv_f n t T o b a.1 = 1 then (1 : Int32) else 0)) := ⟨_, rfl⟩
  obtain ⟨m, e1, -⟩ := qw_lm (e := fun s => s) (step := mc_143_3_p51 N (nI q) x3) (N := N) (fun m => qv_C n t s T o b m ∧ qk_M m) (fun k (a : Int32 × Int32 × Int32) m => (nI k, a.1, a.2.1, a.2.2, m)) (fun a m => (nI q, a.1, a.2.1, a.2.2, m)) G q (x2, 0, 0) σ (by omega) ⟨C, hk⟩ (fun k a m hkq hm => by
    obtain ⟨j1, j2, j3⟩ := qv_144 (N := N) (g := qv_dn (qv_d a.1) n) hN B hm.1 hm.2 (qv_dnl qv_d2 n)
    refine ⟨(ma_144_3 N (nI (qv_dn (qv_d a.1) n)) m).2, ?_, j2, j3⟩
    unfold mc_143_3_p51
    dsimp only [qa_in]
    rw [if_pos (qb_ltT hkq (by omega)), qv_63 (by omega) n7 hm.1.1, qb_s, eG]
    dsimp only
    rw [j1]
    rfl) (fun a m hm => by
    unfold mc_143_3_p51
    dsimp only
    rw [if_neg (qb_ltF (Nat.le_refl q) (by omega))]
    exact ⟨_, rfl, hm⟩)
  have e1' : qa_wh (fun s => s) (mc_143_3_p51 N (nI q) x3) N ((0 : Int32), x2, (0 : Int32), (0 : Int32), σ) = _ := e1
  rw [e1']
  refine ⟨_, rfl, fun τ hP => ?_⟩
  rw [e175, w2, if_neg (show ¬ (0 : Int32) < 0 by decide)]
  obtain ⟨-, F2⟩ := qb_159_117T (σ := qa_u τ 99 9 0) (N := N) (by omega)
  have P1 := qv_PF F2 (fun a j h c => by omega) hP
  obtain ⟨ρ, eρ⟩ : ∃ ρ, ρ = ma_159_99_117 N 1 (qa_u τ 99 9 0) := ⟨_, rfl⟩
  rw [← eρ] at P1 ⊢
  obtain ⟨m', d1, -⟩ := qw_lm (e := fun s => s) (step := mc_250_99_p52 N (nI q) x3) (N := N) (fun m => ∃ s', (∀ c, c < 7 → s' c ≤ 9) ∧ qv_P n t s' T o b m) (fun k (a : Int32 × Int32 × Int32) m => (nI k, a.1, a.2.1, a.2.2, m)) (fun a m => (nI q, a.1, a.2.1, a.2.2, m)) G q (x2, 0, 0) ρ (by omega) ⟨s, B.2.2.1, P1⟩ (fun k a m hkq hm => by
    obtain ⟨s', hs', hP'⟩ := hm
    obtain ⟨μ, f1, f2⟩ := qv_64 (N := N) (z := a.1) (l1 := nI q) (l3 := x3) (l6 := a.2.1) (l7 := a.2.2) (l8 := nI k) (by omega) n7 hP'
    have hs2 : ∀ c, c < 7 → (fun c => if c < n then qv_d a.1 c else s' c) c ≤ 9 := fun c hc => by
      have := hs' c hc
      have := qv_d2 (z := a.1) c
      dsimp only
      split <;> omega
    have B2 : qv_B n t (fun c => if c < n then qv_d a.1 c else s' c) T o b := ⟨n7, t6, hs2, B.2.2.2.1, B.2.2.2.2⟩
    obtain ⟨j1, j2, -, j4⟩ := qs_193 (N := N) hN B2 f2
    have xe : qs_gl n (fun c => if c < n then qv_d a.1 c else s' c) T = qs_X n T (qv_dn (qv_d a.1) n) := funext (fun m => qs_mxx (fun c hc => by
      try dsimp only
      rw [if_pos hc, qv_dns qv_d2 n c hc]))
    rw [xe] at j1
    have zz : (nI (qs_sm (qv_d a.1) n) = 0) ↔ qv_dn (qv_d a.1) n = 0 := by
      have l : qs_sm (qv_d a.1) n ≤ n * 2 := qs_sml (fun c _ => qv_d2 c)
      rw [qw_z (by omega)]
      exact qv_sm0
    have ff : (if nI (qs_sm (qv_d a.1) n) = 0 then (0 : Int32) else (ma_193_99 N μ).1) = qv_f n t T o b a.1 := by
      unfold qv_f
      by_cases c : qv_dn (qv_d a.1) n = 0
      · rw [if_pos (zz.mpr c), if_pos c]
      · rw [if_neg (fun h => c (zz.mp h)), if_neg c, j1]
    refine ⟨if nI (qs_sm (qv_d a.1) n) = 0 then μ else (ma_193_99 N μ).2, ?_, ?_⟩
    · unfold mc_250_99_p52
      dsimp only [qa_in]
      rw [if_pos (qb_ltT hkq (by omega)), f1, qb_s, eG]
      dsimp only
      rw [ff]
    · refine ⟨_, hs2, ?_⟩
      split
      · exact f2
      · exact qv_PF j4 (fun a j h c => by omega) f2) (fun a m hm => by
    unfold mc_250_99_p52
    dsimp only
    rw [if_neg (qb_ltF (Nat.le_refl q) (by omega))]
    exact ⟨_, rfl, hm⟩)
  have d1' : qa_wh (fun s => s) (mc_250_99_p52 N (nI q) x3) N ((0 : Int32), x2, (0 : Int32), (0 : Int32), ρ) = _ := d1
  rw [d1']
end QV9
