/-! GLASSES THAT FIT: windows and tellings -/
section QL1
variable {n t : Nat} {x s : Nat → Nat} {T : Nat → Nat → Nat} {o b : Nat → Nat} {σ τ : qa_S} {N : Nat}
theorem qs_sm99 {s : Nat → Nat} {T : Nat → Nat} : ∀ {n}, (∀ c, c < n → T c ≤ 99) → qs_sm (fun c => s c * T c) n ≤ qs_sm s n * 99 := by
  intro n
  induction n with
  | zero => intro _; exact Nat.le_refl _
  | succ n ih =>
    intro h
    show qs_sm (fun c => s c * T c) n + s n * T n ≤ (qs_sm s n + s n) * 99
    have h1 := ih (fun c hc => h c (by omega))
    have h2 : s n * T n ≤ s n * 99 := Nat.mul_le_mul_left _ (h n (by omega))
    omega
theorem qs_mx99 {n w m : Nat} {s : Nat → Nat} {T : Nat → Nat → Nat} (hT : ∀ c, c < n → T c m ≤ 99) : qs_mx n s T w m ≤ 99 := by
  unfold qs_mx
  refine Nat.div_le_of_le_mul ?_
  have h1 := qs_sm99 (s := s) (T := fun c => T c m) hT
  have h2 : qs_sm s n * 99 ≤ (w + qs_sm s n) * 99 := Nat.mul_le_mul_right _ (by omega)
  omega
/-- what the g-th glass tastes of -/
def qs_X (n : Nat) (T : Nat → Nat → Nat) (g m : Nat) : Nat := qs_mx n (qb_sh n g) T 0 m
theorem qs_Xl {g m : Nat} (hB : qv_B n t s T o b) (hm : m < 4) : qs_X n T g m ≤ 99 := qs_mx99 (fun c hc => hB.2.2.2.1 c m hc hm)
/-- all glasses are mixed -/
def qs_V (n : Nat) (T : Nat → Nat → Nat) (τ : qa_S) : Prop := τ 73 0 = nI n ∧ τ 73 1 = nI (3 ^ n) ∧ ∀ g, 1 ≤ g → g < 3 ^ n → τ 79 g = nI (qs_gp n g) ∧ ∀ m, m < 4 → τ (75 + m) g = nI (qs_X n T g m)
theorem qs_V1 (hB : qv_B n t s T o b) (hC : qv_C n t s T o b τ) (hQ : qb_iQ τ) (h0 : τ 3 18 = 0) : qs_V n T τ := by
  have n7 := hB.1
  obtain ⟨g1, g2, g3⟩ := hQ.2 h0 n n7 hC.1
  refine ⟨g1, g2, fun g ga gb => ⟨(g3 g ga gb).1.trans qk_prN, fun m hm => ?_⟩⟩
  have gp1 := qk_gp1 ga gb
  have gpl := qk_gpl (g := g) n7
  have l1 : qs_sm (fun c => qb_sh n g c * T c m) n ≤ n * (2 * 99) := qs_sml (fun k hk => Nat.mul_le_mul qk_sh2 (hB.2.2.2.1 k m hk hm))
  rw [(g3 g ga gb).2 m hm, qb_glx (T' := fun c m => nI (T c m)) (fun c hc => hC.2.2.2.1 c m hc hm)]
  unfold qb_gl qb_ts
  rw [qb_sumx (g := fun c => nI (qb_sh n g c * T c m)) (fun c _ => qw_mul), qk_sI, qk_prN, qw_div (by omega) (by omega) (by omega)]
  unfold qs_X qs_mx
  rw [Nat.zero_add]
  rfl
/-! windows -/
/-- the class tells a share of a glass -/
theorem qs_79 {g c : Nat} (hn : n ≤ 7) (h1 : ∀ k, k ≤ 7 → τ 1 k = nI (3 ^ k)) (h73 : τ 73 0 = nI n) (hg : g < 2187) (hc : c < n) : ma_79_73 (nI g) (nI c) τ = nI (qb_sh n g c) := by
  have e : ∀ n, n < 8 → ∀ c, c < 8 → c < n → nI n - 1 - nI c = nI (n - 1 - c) := by decide
  have p0 : 0 < 3 ^ (n - 1 - c) := Nat.pow_pos (by omega)
  have l3 : 3 ^ (n - 1 - c) ≤ 2187 := qk_3n (by omega)
  have dl : g / 3 ^ (n - 1 - c) ≤ g := Nat.div_le_self _ _
  unfold ma_79_73
  rw [if_neg (qw_n0 (by omega)), if_pos (qw_ltT h73 hc (by omega)), h73, e n (by omega) c (by omega) hc, qb_n (by omega), h1 (n - 1 - c) (by omega), qw_div (by omega) (by omega) p0, show (3 : Int32) = nI 3 from rfl, qw_div (by omega) (by omega) (by omega), qw_mul, qw_sub (Nat.div_mul_le_self _ _)]
  refine congrArg nI ?_
  unfold qb_sh
  omega
/-! the reference -/
theorem qs_195 (hN : 10 ≤ N) (hn : n ≤ 7) (h : τ 99 0 = nI n) : ma_195_99 N τ = nI (3 ^ n) := by
  unfold ma_195_99
  dsimp only [qa_in]
  have e : ∀ k, qw_f (fun _ a => a * 3) k 1 = 3 ^ k := by
    intro k
    induction k with
    | zero => rfl
    | succ k ih =>
      show qw_f (fun _ a => a * 3) k 1 * 3 = 3 ^ (k + 1)
      rw [ih, Nat.pow_succ]
  rw [← e n]
  refine congrArg Prod.snd (qw_lp (e := fun s => s) (fun k (a : Nat) => (nI k, nI a)) (fun a => (nI n, nI a)) (fun _ a => a * 3) n 1 (by omega) (fun k a hk => ?_) (fun a => ?_))
  · unfold mc_195_99_p4
    dsimp only
    rw [if_pos (qw_ltT h hk (by omega)), qb_s, show nI a * (3 : Int32) = nI (a * 3) from qw_mul (b := 3)]
  · unfold mc_195_99_p4
    dsimp only
    rw [if_neg (qw_ltF h (by omega))]
theorem qs_196 {g : Nat} (hN : 20 ≤ N) (hn : n ≤ 7) (h : τ 99 0 = nI n) (hg : g < 2187) : (∀ c, c < n → ma_196_99 N (nI g) τ 110 c = nI (qb_sh n g c)) ∧ qb_F (fun a _ => a = 110) τ (ma_196_99 N (nI g) τ) := by
  unfold ma_196_99
  dsimp only [qa_in]
  rw [h]
  refine qb_l0 (fun (k : Nat) (q : Int32 × Int32 × qa_S) => q.1 = nI n - nI (k + 1) ∧ q.2.1 = nI (g / 3 ^ k) ∧ (∀ c, c < n → n ≤ c + k → q.2.2 110 c = nI (qb_sh n g c)) ∧ qb_F (fun a _ => a = 110) τ q.2.2) (fun (q : Int32 × Int32 × qa_S) => (∀ c, c < n → q.2.2 110 c = nI (qb_sh n g c)) ∧ qb_F (fun a _ => a = 110) τ q.2.2) n (by omega) ⟨rfl, by rw [Nat.pow_zero, Nat.div_one], fun c hc h2 => by omega, qb_Fr⟩ ?_ ?_
  · rintro k ⟨q1, q2, q3⟩ hk ⟨g1, g2, g3, g4⟩
    dsimp only at g1 g2 g3 g4
    subst g1 g2
    obtain ⟨d1, d2, d3⟩ := (qk_dn n (by omega) k (by omega)).1 hk
    have d4 := (qk_dn n (by omega) k (by omega)).2.1
    have dl : g / 3 ^ k ≤ g := Nat.div_le_self _ _
    unfold mc_196_99_p9
    dsimp only [qa_in]
    rw [if_neg d3, d4, d1, qb_n (by omega), show (3 : Int32) = nI 3 from rfl, qw_div (by omega) (by omega) (by omega), qw_mul, qw_sub (Nat.div_mul_le_self _ _)]
    refine ⟨_, rfl, rfl, ?_, fun c hc h2 => ?_, fun a j ha => ?_⟩
    · dsimp only
      rw [Nat.div_div_eq_div_mul, Nat.pow_succ]
    · dsimp only
      rw [qb_uJ]
      by_cases e : c = n - 1 - k
      · rw [if_pos e]
        refine congrArg nI ?_
        unfold qb_sh
        rw [show n - 1 - c = k by omega]
        omega
      · rw [if_neg e]; exact g3 c hc (by omega)
    · dsimp only
      rw [qb_uA ha]; exact g4 a j ha
  · rintro ⟨q1, q2, q3⟩ ⟨g1, g2, g3, g4⟩
    dsimp only at g1 g2 g3 g4
    subst g1 g2
    unfold mc_196_99_p9
    dsimp only
    rw [if_pos (qk_dn n (by omega) 0 (by omega)).2.2]
    exact ⟨_, rfl, fun c hc => g3 c hc (by omega), g4⟩
end QL1
