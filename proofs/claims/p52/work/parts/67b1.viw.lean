/-! WHAT BOTH SIDES SEE, by natural numbers; loops as folds -/
theorem qw_add {a b : Nat} : nI a + nI b = nI (a + b) := (Int32.ofNat_add a b).symm
theorem qw_mul {a b : Nat} : nI a * nI b = nI (a * b) := (Int32.ofNat_mul a b).symm
theorem qw_sub {a b : Nat} (h : b ≤ a) : nI a - nI b = nI (a - b) := by
  have e : nI (a - b) + nI b = nI a := by rw [qw_add, show a - b + b = a by omega]
  rw [← e]
  exact Int32.add_sub_cancel _ _
theorem qw_div {a b : Nat} (ha : a < 2147483648) (hb : b < 2147483648) (h0 : 0 < b) : nI a / nI b = nI (a / b) := by
  apply Int32.toInt_inj.mp
  rw [q53_idiv (by rw [nI_toInt hb]; omega), nI_toInt ha, nI_toInt hb, nI_toInt (Nat.lt_of_le_of_lt (Nat.div_le_self _ _) ha)]
  rfl
/-- a fold -/
def qw_f {A : Type} (F : Nat → A → A) : Nat → A → A
  | 0, a => a
  | k + 1, a => F k (qw_f F k a)
/-- what holds of a fold -/
theorem qw_fI {A : Type} {F : Nat → A → A} {a : A} (J : Nat → A → Prop) (h0 : J 0 a) : ∀ {n : Nat}, (∀ k x, k < n → J k x → J (k + 1) (F k x)) → J n (qw_f F n a) := by
  intro n
  induction n with
  | zero => intro _; exact h0
  | succ n ih => intro h; exact h n _ (by omega) (ih (fun k x hk hx => h k x (by omega) hx))
/-- a counted loop is a fold -/
theorem qw_lp {T B A : Type} {e : T → B} {step : T → T ⊕ B} (S : Nat → A → T) (E : A → B) (F : Nat → A → A) (n : Nat) (a0 : A) {N : Nat} (hN : n < N) (h : ∀ k a, k < n → step (S k a) = .inl (S (k + 1) (F k a))) (he : ∀ a, step (S n a) = .inr (E a)) : qa_wh e step N (S 0 a0) = E (qw_f F n a0) :=
  qb_l0 (fun k s => s = S k (qw_f F k a0)) (fun x => x = E (qw_f F n a0)) n hN rfl (fun k s hk hs => by subst hs; exact ⟨_, h k _ hk, rfl⟩) (fun s hs => by subst hs; exact ⟨_, he _, rfl⟩)
/-- the first for which it holds -/
def qw_st {B : Type} (p : Nat → Prop) (n : Nat) (X : Nat → B) (Y v : B) : Prop := (∃ k, k < n ∧ p k ∧ (∀ j, j < k → ¬ p j) ∧ v = X k) ∨ ((∀ j, j < n → ¬ p j) ∧ v = Y)
theorem qw_stU {B : Type} {p q : Nat → Prop} {n : Nat} {X X' : Nat → B} {Y Y' v w : B} (h : qw_st p n X Y v) (h' : qw_st q n X' Y' w) (hp : ∀ k, k < n → (p k ↔ q k)) (hX : ∀ k, k < n → p k → X k = X' k) (hY : Y = Y') : v = w := by
  rcases h with ⟨k, k1, k2, k3, k4⟩ | ⟨k1, k2⟩
  · rcases h' with ⟨j, j1, j2, j3, j4⟩ | ⟨j1, j2⟩
    · have e : k = j := by
        rcases Nat.lt_trichotomy k j with c | c | c
        · exact absurd ((hp k k1).mp k2) (j3 k c)
        · exact c
        · exact absurd ((hp j j1).mpr j2) (k3 j c)
      subst e
      rw [k4, j4, hX k k1 k2]
    · exact absurd ((hp k k1).mp k2) (j1 k k1)
  · rcases h' with ⟨j, j1, j2, j3, j4⟩ | ⟨j1, j2⟩
    · exact absurd ((hp j j1).mpr j2) (k1 j j1)
    · rw [k2, j2, hY]
/-- a counted loop that is left at the first for which it holds -/
theorem qw_lf {T B C : Type} {e : T → B} {step : T → T ⊕ B} (p : Nat → Prop) (S : Nat → T) (X : Nat → C) (Y : C) (g : B → C) (n : Nat) {N : Nat} (hN : n < N) (h : ∀ k, k < n → (¬ p k ∧ step (S k) = .inl (S (k + 1))) ∨ (p k ∧ ∃ x, step (S k) = .inr x ∧ g x = X k)) (he : ∃ x, step (S n) = .inr x ∧ g x = Y) : qw_st p n X Y (g (qa_wh e step N (S 0))) := by
  refine qb_lp (fun k s => s = S k ∧ ∀ j, j < k → ¬ p j) (fun x => qw_st p n X Y (g x)) n (fun k s hk hs => ?_) (fun s hs => ?_) N 0 (S 0) (Nat.zero_le _) (by omega) ⟨rfl, fun j hj => by omega⟩
  · obtain ⟨hs, hp⟩ := hs
    subst hs
    rcases h k hk with ⟨h1, h2⟩ | ⟨h1, x, h2, h3⟩
    · refine Or.inl ⟨_, h2, rfl, fun j hj => ?_⟩
      by_cases c : j = k
      · subst c; exact h1
      · exact hp j (by omega)
    · exact Or.inr ⟨x, h2, Or.inl ⟨k, hk, h1, hp, h3⟩⟩
  · obtain ⟨hs, hp⟩ := hs
    subst hs
    obtain ⟨x, h2, h3⟩ := he
    exact ⟨x, h2, Or.inr ⟨hp, h3⟩⟩
/-! the views -/
def qv_B (n t : Nat) (s : Nat → Nat) (T : Nat → Nat → Nat) (o b : Nat → Nat) : Prop := n ≤ 7 ∧ t ≤ 6 ∧ (∀ c, c < 7 → s c ≤ 9) ∧ (∀ c m, c < n → m < 4 → T c m ≤ 99) ∧ (∀ i, i < 6 → o i ≤ 15 ∧ b i ≤ 9)
def qv_C (n t : Nat) (s : Nat → Nat) (T : Nat → Nat → Nat) (o b : Nat → Nat) (σ : qa_S) : Prop := σ 4 0 = nI n ∧ σ 4 1 = nI t ∧ (∀ c, c < 7 → σ 7 c = nI (s c)) ∧ (∀ c m, c < n → m < 4 → σ (17 + c) m = nI (T c m)) ∧ (∀ i, i < 6 → σ 24 i = nI (o i) ∧ σ 25 i = nI (b i))
def qv_P (n t : Nat) (s : Nat → Nat) (T : Nat → Nat → Nat) (o b : Nat → Nat) (τ : qa_S) : Prop := τ 99 0 = nI n ∧ τ 99 5 = nI t ∧ (∀ c, c < 7 → τ 103 c = nI (s c)) ∧ (∀ i, i < 6 → τ 104 i = nI (o i) ∧ τ 105 i = nI (b i)) ∧ (∀ c m, c < n → m < 4 → qb_T (fun c => τ 100 c) (fun c => τ 101 c) (fun c m => τ 102 (4 * c + m)) c m = nI (T c m))
/-- the reference, its tastes laid -/
def qv_R (n t : Nat) (s : Nat → Nat) (T : Nat → Nat → Nat) (o b : Nat → Nat) (τ : qa_S) : Prop := τ 99 0 = nI n ∧ τ 99 5 = nI t ∧ (∀ c, c < 7 → τ 103 c = nI (s c)) ∧ (∀ i, i < 6 → τ 104 i = nI (o i) ∧ τ 105 i = nI (b i)) ∧ (∀ c m, c < n → m < 4 → τ 108 (4 * c + m) = nI (T c m))
section QV
variable {n t : Nat} {s : Nat → Nat} {T : Nat → Nat → Nat} {o b : Nat → Nat} {σ τ : qa_S} {w : Nat → Nat → Prop}
theorem qv_CF (h : qb_F w σ τ) (hw : ∀ a j, (a = 4 ∧ j < 2) ∨ a = 7 ∨ (17 ≤ a ∧ a ≤ 25) → ¬ w a j) (hC : qv_C n t s T o b σ) (hn : n ≤ 7) : qv_C n t s T o b τ :=
  ⟨(h _ _ (hw _ _ (by omega))).trans hC.1, (h _ _ (hw _ _ (by omega))).trans hC.2.1, fun c hc => (h _ _ (hw _ _ (by omega))).trans (hC.2.2.1 c hc), fun c m hc hm => (h _ _ (hw _ _ (by omega))).trans (hC.2.2.2.1 c m hc hm), fun i hi => ⟨(h _ _ (hw _ _ (by omega))).trans (hC.2.2.2.2 i hi).1, (h _ _ (hw _ _ (by omega))).trans (hC.2.2.2.2 i hi).2⟩⟩
theorem qv_PF (h : qb_F w σ τ) (hw : ∀ a j, (a = 99 ∧ (j = 0 ∨ j = 5)) ∨ (100 ≤ a ∧ a ≤ 105) → ¬ w a j) (hP : qv_P n t s T o b σ) : qv_P n t s T o b τ := by
  refine ⟨(h _ _ (hw _ _ (by omega))).trans hP.1, (h _ _ (hw _ _ (by omega))).trans hP.2.1, fun c hc => (h _ _ (hw _ _ (by omega))).trans (hP.2.2.1 c hc), fun i hi => ⟨(h _ _ (hw _ _ (by omega))).trans (hP.2.2.2.1 i hi).1, (h _ _ (hw _ _ (by omega))).trans (hP.2.2.2.1 i hi).2⟩, fun c m hc hm => ?_⟩
  rw [← hP.2.2.2.2 c m hc hm]
  exact qb_Tx (n := n) (fun c _ => h _ _ (hw _ _ (by omega))) (fun c _ => h _ _ (hw _ _ (by omega))) (fun c m _ _ => h _ _ (hw _ _ (by omega))) c m hc hm
theorem qv_RF (h : qb_F w σ τ) (hw : ∀ a j, (a = 99 ∧ (j = 0 ∨ j = 5)) ∨ (103 ≤ a ∧ a ≤ 105) ∨ a = 108 → ¬ w a j) (hR : qv_R n t s T o b σ) : qv_R n t s T o b τ :=
  ⟨(h _ _ (hw _ _ (by omega))).trans hR.1, (h _ _ (hw _ _ (by omega))).trans hR.2.1, fun c hc => (h _ _ (hw _ _ (by omega))).trans (hR.2.2.1 c hc), fun i hi => ⟨(h _ _ (hw _ _ (by omega))).trans (hR.2.2.2.1 i hi).1, (h _ _ (hw _ _ (by omega))).trans (hR.2.2.2.1 i hi).2⟩, fun c m hc hm => (h _ _ (hw _ _ (by omega))).trans (hR.2.2.2.2 c m hc hm)⟩
/-- the reference lays its tastes -/
theorem qv_181 {N : Nat} (hN : 10 ≤ N) (hn : n ≤ 7) (hP : qv_P n t s T o b τ) : qv_R n t s T o b (ma_181_99 N τ) ∧ qb_F (fun a _ => a = 108) τ (ma_181_99 N τ) := by
  obtain ⟨p1, p2, p3, p4, p5⟩ := hP
  have q := qb_181 hN hn p1 (K := fun c => τ 100 c) (F := fun c => τ 101 c) (R := fun c m => τ 102 (4 * c + m)) (fun _ _ => rfl) (fun _ _ => rfl) (fun _ _ _ _ => rfl)
  refine ⟨⟨(q.2 _ _ (by omega)).trans p1, (q.2 _ _ (by omega)).trans p2, fun c hc => (q.2 _ _ (by omega)).trans (p3 c hc), fun i hi => ⟨(q.2 _ _ (by omega)).trans (p4 i hi).1, (q.2 _ _ (by omega)).trans (p4 i hi).2⟩, fun c m hc hm => ?_⟩, q.2⟩
  rw [q.1 c m hc hm]
  exact p5 c m hc hm
end QV
theorem qw_nn {x : Int32} {h : Int} (h0 : 0 ≤ x.toInt ∧ x.toInt ≤ h) : x = nI x.toNatClampNeg ∧ (x.toNatClampNeg : Int) ≤ h := ⟨q53_nI h0.1, by
  have e : x.toNatClampNeg = x.toInt.toNat := rfl
  rw [e]; omega⟩
/-- how a cask tastes at most -/
theorem qw_b {k f x p : Int32} {z : Bool} (hf : 0 ≤ f.toInt ∧ f.toInt ≤ 9) (hx : 0 ≤ x.toInt ∧ x.toInt ≤ 27) (hp : 0 ≤ p.toInt ∧ p.toInt ≤ 99) : 0 ≤ (qb_b k f x p z).toInt ∧ (qb_b k f x p z).toInt ≤ 99 := by
  obtain ⟨F, rfl, f2, -, -⟩ := qb_ex (b := 9) hf
  obtain ⟨X, rfl, x2, -, -⟩ := qb_ex (b := 27) hx
  obtain ⟨P, rfl, p2, -, -⟩ := qb_ex (b := 99) hp
  have r : ∀ a : Nat, a ≤ 99 → 0 ≤ (nI a).toInt ∧ (nI a).toInt ≤ 99 := fun a ha => by rw [nI_toInt (by omega)]; omega
  have d : ∀ a : Nat, a ≤ 198 → nI a / 2 = nI (a / 2) := fun a ha => qw_div (b := 2) (by omega) (by omega) (by omega)
  have m2 : (2 : Int32) * nI (X + F) = nI (2 * (X + F)) := qw_mul (a := 2)
  unfold qb_b
  rw [qw_add, d X (by omega), m2, qw_add, d (X + P) (by omega)]
  by_cases c1 : k = 1
  · rw [if_pos c1]; exact r _ (by omega)
  rw [if_neg c1]
  by_cases c2 : k = 2
  · rw [if_pos c2]; exact r _ (by omega)
  rw [if_neg c2]
  by_cases c3 : k = 3
  · rw [if_pos c3]; exact r _ (by omega)
  rw [if_neg c3]
  by_cases c4 : k = 4
  · rw [if_pos c4]; exact r 0 (by omega)
  rw [if_neg c4]
  by_cases c5 : k = 5
  · rw [if_pos c5]
    cases z
    · exact r _ (by omega)
    · exact r _ (by omega)
  · rw [if_neg c5]; exact r _ (by omega)
theorem qw_T {V : Nat → Int32} (hD : qb_D V) : ∀ c, c < 7 → ∀ m, m < 4 → 0 ≤ (qb_TV V c m).toInt ∧ (qb_TV V c m).toInt ≤ 99 := by
  have hF : ∀ c, c < 7 → 0 ≤ (V (3 + 3 * c)).toInt ∧ (V (3 + 3 * c)).toInt ≤ 9 := fun c hc => by
    have := hD (3 + 3 * c) (by omega)
    have e : ∀ c, c < 7 → qb_hi (3 + 3 * c) = 9 := by decide
    rw [e c hc] at this
    exact this
  have hR : ∀ c, c < 7 → ∀ m, m < 4 → 0 ≤ (3 * V (23 + 4 * c + m)).toInt ∧ (3 * V (23 + 4 * c + m)).toInt ≤ 27 := fun c hc m hm => by
    have := hD (23 + 4 * c + m) (by omega)
    have e : ∀ c, c < 7 → ∀ m, m < 4 → qb_hi (23 + 4 * c + m) = 9 := by decide
    rw [e c hc m hm] at this
    obtain ⟨x, hx, x9, -, -⟩ := qb_ex (b := 9) this
    rw [hx, show (3 : Int32) * nI x = nI (3 * x) from qw_mul (a := 3), nI_toInt (by omega)]
    omega
  intro c
  induction c with
  | zero => intro hc m hm; exact qw_b (hF 0 hc) (hR 0 hc m hm) (p := 0) (by decide)
  | succ c ih => intro hc m hm; exact qw_b (hF (c + 1) hc) (hR (c + 1) hc m hm) (ih (by omega) m hm)
/-- what holds between calls gives the views -/
theorem qv_get {xx yy : Prop} {σ : qa_S} (hI : qb_I xx yy σ) : ∃ (n t : Nat) (s : Nat → Nat) (T : Nat → Nat → Nat) (o b : Nat → Nat), qv_B n t s T o b ∧ qv_C n t s T o b σ ∧ qv_P n t s T o b σ := by
  obtain ⟨n, n7, n1, n2, n3⟩ := qb_An hI.1
  obtain ⟨t, t6, t1, t2, t3⟩ := qb_At hI.1
  have hD := hI.1.2
  have hY := hI.2.2.2.2.2.2.1
  have S : ∀ c, c < 7 → 0 ≤ (σ 7 c).toInt ∧ (σ 7 c).toInt ≤ 9 := fun c hc => by
    have a1 := hD (4 + 3 * c) (by omega)
    have e : ∀ c, c < 7 → qb_hi (4 + 3 * c) = 9 := by decide
    rw [e c hc] at a1
    unfold qb_gm at a1
    rw [qb_mS c hc] at a1
    rw [(qb_alK hI hc).2.2.1]
    exact a1
  have O : ∀ i, i < 6 → 0 ≤ (σ 24 i).toInt ∧ (σ 24 i).toInt ≤ 15 := fun c hc => by
    have a1 := hD (51 + 3 * c) (by omega)
    have e : ∀ c, c < 6 → qb_hi (51 + 3 * c) = 15 := by decide
    rw [e c hc] at a1
    unfold qb_gm at a1
    rw [qb_mO c hc] at a1
    rw [(qb_alT hI hc).1]
    exact a1
  have B : ∀ i, i < 6 → 0 ≤ (σ 25 i).toInt ∧ (σ 25 i).toInt ≤ 9 := fun c hc => by
    have a1 := hD (52 + 3 * c) (by omega)
    have e : ∀ c, c < 6 → qb_hi (52 + 3 * c) = 9 := by decide
    rw [e c hc] at a1
    unfold qb_gm at a1
    rw [qb_mB c hc] at a1
    rw [(qb_alT hI hc).2.1]
    exact a1
  have Y : ∀ c m, c < n → m < 4 → σ (17 + c) m = qb_TV (qb_gm σ) c m := fun c m hc hm => hY c m (by omega) hm
  have TT : ∀ c m, c < n → m < 4 → 0 ≤ (σ (17 + c) m).toInt ∧ (σ (17 + c) m).toInt ≤ 99 := fun c m hc hm => by
    rw [Y c m hc hm]
    exact qw_T hD c (by omega) m hm
  refine ⟨n, t, fun c => (σ 7 c).toNatClampNeg, fun c m => (σ (17 + c) m).toNatClampNeg, fun i => (σ 24 i).toNatClampNeg, fun i => (σ 25 i).toNatClampNeg, ⟨n7, t6, fun c hc => ?_, fun c m hc hm => ?_, fun i hi => ⟨?_, ?_⟩⟩, ⟨n1, t1, fun c hc => (qw_nn (S c hc)).1, fun c m hc hm => (qw_nn (TT c m hc hm)).1, fun i hi => ⟨(qw_nn (O i hi)).1, (qw_nn (B i hi)).1⟩⟩, n2, t2, fun c hc => ?_, fun i hi => ⟨?_, ?_⟩, fun c m hc hm => ?_⟩
  · have := (qw_nn (S c hc)).2; dsimp only; omega
  · have := (qw_nn (TT c m hc hm)).2; dsimp only; omega
  · have := (qw_nn (O i hi)).2; dsimp only; omega
  · have := (qw_nn (B i hi)).2; dsimp only; omega
  · rw [← (qb_alK hI hc).2.2.1]; exact (qw_nn (S c hc)).1
  · rw [← (qb_alT hI hi).1]; exact (qw_nn (O i hi)).1
  · rw [← (qb_alT hI hi).2.1]; exact (qw_nn (B i hi)).1
  · rw [← (qw_nn (TT c m hc hm)).1, Y c m hc hm]
    unfold qb_TV qb_gm
    refine qb_Tx (n := 7) (fun c hc => ?_) (fun c hc => ?_) (fun c m hc hm => ?_) c m (by omega) hm
    · rw [qb_mK c hc]
    · rw [qb_mG c hc]
    · rw [qb_mM c hc m hm]
/-! arguments, both sides' tests of them -/
theorem qw_m (a : Int32) : (ma_26 a = 0 ∧ ma_165 a = 0) ∨ (∃ u, u < 4 ∧ a = nI u ∧ ¬ ma_26 a = 0 ∧ ¬ ma_165 a = 0) := by
  by_cases h : 0 ≤ a.toInt ∧ a.toInt ≤ 3
  · exact Or.inr ⟨a.toInt.toNat, by omega, q53_nI h.1, fun c => qb_26z.mp c h, fun c => qb_165.mp c h⟩
  · exact Or.inl ⟨qb_26z.mpr h, qb_165.mpr h⟩