/-! TELLING, MIXING: values by natural numbers -/
theorem qw_z {a : Nat} (h : a < 2147483648) : nI a = 0 ↔ a = 0 := qb_eq (b := 0) h (by omega)
theorem qs_48e : ∀ k, k < 7 → ma_48 (-1) (nI k) = 1 := by decide +kernel
section QS
variable {σ : qa_S} {N o b l2 l3 : Nat} {x y : Nat → Nat}
end QS
section QS2
variable {n t : Nat} {s : Nat → Nat} {T : Nat → Nat → Nat} {o b : Nat → Nat} {σ τ : qa_S} {N : Nat}
/-! mixing -/
def qs_sm (f : Nat → Nat) (n : Nat) : Nat := qw_f (fun c a => a + f c) n 0
theorem qs_sml {f : Nat → Nat} {n h : Nat} (hf : ∀ k, k < n → f k ≤ h) : qs_sm f n ≤ n * h := by
  refine qw_fI (F := fun c a => a + f c) (fun k a => a ≤ k * h) (by omega) (fun k x hk hx => ?_)
  have := hf k hk
  have e : (k + 1) * h = k * h + h := Nat.succ_mul k h
  omega
/-- a glass of shares s, and of water -/
def qs_mx (n : Nat) (s : Nat → Nat) (T : Nat → Nat → Nat) (w m : Nat) : Nat := qs_sm (fun c => s c * T c m) n / (w + qs_sm s n)
theorem qs_mxl {n : Nat} {s : Nat → Nat} {T : Nat → Nat → Nat} {w m : Nat} (hn : n ≤ 7) (hs : ∀ c, c < n → s c ≤ 99) (hT : ∀ c, c < n → T c m ≤ 99) : qs_sm (fun c => s c * T c m) n ≤ 68607 ∧ qs_sm s n ≤ 693 ∧ qs_mx n s T w m < 1000000 := by
  have h1 : qs_sm (fun c => s c * T c m) n ≤ n * (99 * 99) := qs_sml (fun k hk => Nat.mul_le_mul (hs k hk) (hT k hk))
  have h2 : qs_sm s n ≤ n * 99 := qs_sml hs
  have h3 := Nat.div_le_self (qs_sm (fun c => s c * T c m) n) (w + qs_sm s n)
  unfold qs_mx
  refine ⟨?_, ?_, ?_⟩ <;> omega
/-- the class mixes -/
theorem qs_47 {S0 : Int32} {w a4 l1 : Nat} {e : Nat → Bool} {s1 : Nat → Nat} (hN : 10 ≤ N) (hB : qv_B n t s T o b) (hC : qv_C n t s T o b σ) (hw : w ≤ 1000) (h4 : a4 = 94 ∨ a4 = 95) (hl : l1 = 7 ∨ l1 = 92) (h1 : ∀ c, c < n → σ l1 c = nI (s1 c) ∧ s1 c ≤ 99) (hS : ∀ c, c < n → ma_48 S0 (nI c) = if e c then 1 else 0) : (∀ m, m < 4 → ma_47_4 N l1 S0 (nI w) a4 σ a4 m = nI (qs_mx n (fun c => if e c then s1 c else 0) T w m)) ∧ qb_F (fun a _ => a = a4) σ (ma_47_4 N l1 S0 (nI w) a4 σ) := by
  obtain ⟨n7, t6, hs, hT, -⟩ := hB
  unfold ma_47_4
  dsimp only [qa_in]
  refine qb_l0 (fun (k : Nat) (q : Int32 × qa_S) => q.1 = nI k ∧ (∀ m, m < k → q.2 a4 m = nI (qs_mx n (fun c => if e c then s1 c else 0) T w m)) ∧ qb_F (fun a _ => a = a4) σ q.2) (fun (q : Int32 × qa_S) => (∀ m, m < 4 → q.2 a4 m = nI (qs_mx n (fun c => if e c then s1 c else 0) T w m)) ∧ qb_F (fun a _ => a = a4) σ q.2) 4 (by omega) ⟨rfl, fun m hm => by omega, qb_Fr⟩ ?_ ?_
  · rintro k ⟨q1, q2⟩ hk ⟨g1, g2, g3⟩
    dsimp only at g1 g2 g3
    subst g1
    have C2 := qv_CF g3 (fun a j h c => by omega) hC n7
    have L : qa_wh (fun s => s) (mc_47_4_p18 N l1 S0 (nI w) a4 (nI k) q2) N ((0 : Int32), (0 : Int32), nI w) = (nI n, nI (qs_sm (fun c => (if e c then s1 c else 0) * T c k) n), nI (w + qs_sm (fun c => if e c then s1 c else 0) n)) := by
      have := qw_lp (e := fun s => s) (step := mc_47_4_p18 N l1 S0 (nI w) a4 (nI k) q2) (fun j (a : Nat × Nat) => (nI j, nI a.1, nI a.2)) (fun a => (nI n, nI a.1, nI a.2)) (fun c a => (a.1 + (if e c then s1 c else 0) * T c k, a.2 + (if e c then s1 c else 0))) n (0, w) (N := N) (by omega) (fun j a hj => ?_) (fun a => ?_)
      · refine this.trans ?_
        have E : ∀ j, qw_f (fun c (a : Nat × Nat) => (a.1 + (if e c then s1 c else 0) * T c k, a.2 + (if e c then s1 c else 0))) j (0, w) = (qs_sm (fun c => (if e c then s1 c else 0) * T c k) j, w + qs_sm (fun c => if e c then s1 c else 0) j) := by
          intro j
          induction j with
          | zero => rfl
          | succ j ih =>
            show (_, _) = _
            rw [ih]
            refine Prod.ext rfl ?_
            exact Nat.add_assoc _ _ _
        rw [E n]
      · unfold mc_47_4_p18
        dsimp only
        rw [C2.1, if_pos (qb_ltT hj (by omega)), qb_n (k := j) (by omega), qb_n (k := k) (by omega), g3 l1 j (by omega), (h1 j hj).1, C2.2.2.2.1 j k hj hk, hS j hj, qb_s, qw_mul, qw_add, qw_add]
        cases e j
        · have zz : (if false = true then (1 : Int32) else 0) = 0 := rfl
          rw [if_pos zz, if_pos zz]
          refine congrArg Sum.inl (Prod.ext rfl (Prod.ext ?_ rfl))
          show nI a.1 = nI (a.1 + 0 * T j k)
          rw [Nat.zero_mul]
          rfl
        · rw [if_neg (by decide), if_neg (by decide)]
          rfl
      · unfold mc_47_4_p18
        dsimp only
        rw [C2.1, if_neg (qb_ltF (Nat.le_refl n) (by omega))]
    unfold mc_47_4_p3
    dsimp only
    rw [if_pos (show nI k < (4 : Int32) from qb_ltT (b := 4) hk (by omega)), L]
    unfold qa_in
    dsimp only
    have s99 : ∀ c, c < n → (if e c then s1 c else 0) ≤ 99 := fun c hc => by have := (h1 c hc).2; split <;> omega
    obtain ⟨b1, b2, b3⟩ := qs_mxl (w := w) (m := k) n7 s99 (fun c hc => hT c k hc hk)
    refine ⟨_, rfl, qb_s, fun m hm => ?_, fun a i ha => ?_⟩
    · dsimp only
      rw [qb_n (k := k) (by omega), qb_uJ]
      by_cases c : m = k
      · rw [if_pos c, c]
        unfold qs_mx
        by_cases z : w + qs_sm (fun c => if e c then s1 c else 0) n = 0
        · rw [z, if_pos (show nI 0 = 0 from rfl), Nat.div_zero]; rfl
        · rw [if_neg (fun c => z ((qw_z (by omega)).mp c)), qw_div (by omega) (by omega) (by omega)]
      · rw [if_neg c]
        exact g2 m (by omega)
    · dsimp only
      rw [qb_uA (by omega)]
      exact g3 a i ha
  · rintro ⟨q1, q2⟩ ⟨g1, g2, g3⟩
    dsimp only at g1 g2 g3
    subst g1
    unfold mc_47_4_p3
    dsimp only
    rw [if_neg (show ¬ nI 4 < (4 : Int32) by decide)]
    exact ⟨_, rfl, g2, g3⟩
/-- the glass -/
def qs_gl (n : Nat) (s : Nat → Nat) (T : Nat → Nat → Nat) (m : Nat) : Nat := qs_mx n s T 0 m
theorem qs_gll (hB : qv_B n t s T o b) {m : Nat} (hm : m < 4) : qs_gl n s T m < 1000000 := (qs_mxl hB.1 (fun c hc => by have := hB.2.2.1 c (by have := hB.1; omega); omega) (fun c hc => hB.2.2.2.1 c m hc hm)).2.2
theorem qs_46 (hN : 10 ≤ N) (hB : qv_B n t s T o b) (hC : qv_C n t s T o b σ) : (∀ m, m < 4 → ma_46_3 N σ 94 m = nI (qs_gl n s T m)) ∧ qb_F (fun a _ => a = 94) σ (ma_46_3 N σ) := by
  have n7 := hB.1
  have h := qs_47 (S0 := -1) (w := 0) (a4 := 94) (l1 := 7) (e := fun _ => true) (s1 := s) hN hB hC (by omega) (Or.inl rfl) (Or.inl rfl) (fun c hc => ⟨hC.2.2.1 c (by omega), by have := hB.2.2.1 c (by omega); omega⟩) (fun c hc => qs_48e c (by omega))
  exact h
/-- the reference mixes what is tried -/
theorem qs_183 {r : Nat → Nat} (hN : 10 ≤ N) (hB : qv_B n t s T o b) (hR : qv_R n t s T o b τ) (hr : ∀ c, c < n → τ 110 c = nI (r c) ∧ r c ≤ 99) : (∀ m, m < 4 → ma_183_99 N τ 111 m = nI (qs_mx n r T 0 m)) ∧ qb_F (fun a _ => a = 111) τ (ma_183_99 N τ) := by
  obtain ⟨n7, t6, hs, hT, -⟩ := hB
  unfold ma_183_99
  dsimp only [qa_in]
  have L1 : qa_wh (fun s => s) (mc_183_99_p4 N τ) N ((0 : Int32), (0 : Int32)) = (nI n, nI (qs_sm r n)) := by
    refine qw_lp (e := fun s => s) (fun j (a : Nat) => (nI j, nI a)) (fun a => (nI n, nI a)) (fun c a => a + r c) n 0 (N := N) (by omega) (fun j a hj => ?_) (fun a => ?_)
    · unfold mc_183_99_p4
      dsimp only
      rw [hR.1, if_pos (qb_ltT hj (by omega)), qb_n (k := j) (by omega), (hr j hj).1, qb_s, qw_add]
    · unfold mc_183_99_p4
      dsimp only
      rw [hR.1, if_neg (qb_ltF (Nat.le_refl n) (by omega))]
  rw [L1]
  dsimp only
  refine qb_l0 (fun (k : Nat) (q : Int32 × qa_S) => q.1 = nI k ∧ (∀ m, m < k → q.2 111 m = nI (qs_mx n r T 0 m)) ∧ qb_F (fun a _ => a = 111) τ q.2) (fun (q : Int32 × qa_S) => (∀ m, m < 4 → q.2 111 m = nI (qs_mx n r T 0 m)) ∧ qb_F (fun a _ => a = 111) τ q.2) 4 (by omega) ⟨rfl, fun m hm => by omega, qb_Fr⟩ ?_ ?_
  · rintro k ⟨q1, q2⟩ hk ⟨g1, g2, g3⟩
    dsimp only at g1 g2 g3
    subst g1
    have C2 := qv_RF g3 (fun a j h c => by omega) hR
    have L : qa_wh (fun s => s) (mc_183_99_p39 N (nI (qs_sm r n)) (nI k) q2) N ((0 : Int32), (0 : Int32)) = (nI n, nI (qs_sm (fun c => r c * T c k) n)) := by
      refine qw_lp (e := fun s => s) (fun j (a : Nat) => (nI j, nI a)) (fun a => (nI n, nI a)) (fun c a => a + r c * T c k) n 0 (N := N) (by omega) (fun j a hj => ?_) (fun a => ?_)
      · unfold mc_183_99_p39
        dsimp only
        rw [C2.1, if_pos (qb_ltT hj (by omega)), qb_n (k := j) (by omega), qb_i4 j (by omega) k hk, g3 110 j (by omega), (hr j hj).1, C2.2.2.2.2 j k hj hk, qb_s, qw_mul, qw_add]
      · unfold mc_183_99_p39
        dsimp only
        rw [C2.1, if_neg (qb_ltF (Nat.le_refl n) (by omega))]
    unfold mc_183_99_p29
    dsimp only
    rw [if_pos (show nI k < (4 : Int32) from qb_ltT (b := 4) hk (by omega)), L]
    unfold qa_in
    dsimp only
    obtain ⟨b1, b2, b3⟩ := qs_mxl (w := 0) (m := k) n7 (fun c hc => (hr c hc).2) (fun c hc => hT c k hc hk)
    refine ⟨_, rfl, qb_s, fun m hm => ?_, fun a i ha => ?_⟩
    · dsimp only
      rw [qb_n (k := k) (by omega), qb_uJ]
      by_cases c : m = k
      · rw [if_pos c, c]
        unfold qs_mx
        rw [Nat.zero_add]
        by_cases z : qs_sm r n = 0
        · rw [z, if_pos (show nI 0 = 0 from rfl), Nat.div_zero]; rfl
        · rw [if_neg (fun c => z ((qw_z (by omega)).mp c)), qw_div (by omega) (by omega) (by omega)]
      · rw [if_neg c]
        exact g2 m (by omega)
    · dsimp only
      rw [qb_uA (by omega)]
      exact g3 a i ha
  · rintro ⟨q1, q2⟩ ⟨g1, g2, g3⟩
    dsimp only at g1 g2 g3
    subst g1
    unfold mc_183_99_p29
    dsimp only
    rw [if_neg (show ¬ nI 4 < (4 : Int32) by decide)]
    exact ⟨_, rfl, g2, g3⟩
/-- the reference lays tastes, shares tried, the glass -/
theorem qs_180 (hN : 10 ≤ N) (hB : qv_B n t s T o b) (hP : qv_P n t s T o b τ) : qv_R n t s T o b (ma_180_99 N τ) ∧ (∀ c, c < n → ma_180_99 N τ 110 c = nI (s c)) ∧ (∀ m, m < 4 → ma_180_99 N τ 109 m = nI (qs_gl n s T m)) ∧ qb_F (fun a _ => 108 ≤ a ∧ a ≤ 111) τ (ma_180_99 N τ) := by
  have n7 := hB.1
  unfold ma_180_99
  dsimp only [qa_in]
  obtain ⟨R1, F1⟩ := qv_181 hN n7 hP
  obtain ⟨τ1, e1⟩ : ∃ x, x = ma_181_99 N τ := ⟨_, rfl⟩
  rw [← e1] at R1 F1 ⊢
  obtain ⟨τ2, e2, R2, F2, h2⟩ : ∃ τ2, (qa_wh (fun s => s) (mc_180_99_p6 N) N ((0 : Int32), τ1)).2 = τ2 ∧ qv_R n t s T o b τ2 ∧ qb_F (fun a _ => a = 110) τ1 τ2 ∧ ∀ c, c < n → τ2 110 c = nI (s c) := by
    refine ⟨_, rfl, ?_⟩
    refine qb_l0 (fun (k : Nat) (q : Int32 × qa_S) => q.1 = nI k ∧ qv_R n t s T o b q.2 ∧ qb_F (fun a _ => a = 110) τ1 q.2 ∧ ∀ c, c < k → q.2 110 c = nI (s c)) (fun (q : Int32 × qa_S) => qv_R n t s T o b q.2 ∧ qb_F (fun a _ => a = 110) τ1 q.2 ∧ ∀ c, c < n → q.2 110 c = nI (s c)) n (by omega) ⟨rfl, R1, qb_Fr, fun c hc => by omega⟩ ?_ ?_
    · rintro k ⟨q1, q2⟩ hk ⟨g1, g2, g3, g4⟩
      dsimp only at g1 g2 g3 g4
      subst g1
      unfold mc_180_99_p6
      dsimp only [qa_in]
      rw [if_pos (show nI k < q2 99 0 by rw [g2.1]; exact qb_ltT hk (by omega)), qb_n (k := k) (by omega), qb_s, g2.2.2.1 k (by omega)]
      refine ⟨_, rfl, rfl, qv_RF (qb_Fu (w := fun a _ => a = 110) rfl) (fun a j h c => by omega) g2, fun a j h => (qb_uA h).trans (g3 a j h), fun c hc => ?_⟩
      dsimp only
      rw [qb_uJ]
      by_cases e : c = k
      · rw [if_pos e, e]
      · rw [if_neg e]; exact g4 c (by omega)
    · rintro ⟨q1, q2⟩ ⟨g1, g2, g3, g4⟩
      dsimp only at g1 g2 g3 g4
      subst g1
      unfold mc_180_99_p6
      dsimp only
      rw [if_neg (show ¬ nI n < q2 99 0 by rw [g2.1]; exact qb_ltF (Nat.le_refl n) (by omega))]
      exact ⟨_, rfl, g2, g3, g4⟩
  rw [e2]
  obtain ⟨h3, F3⟩ := qs_183 hN hB R2 (r := s) (fun c hc => ⟨h2 c hc, by have := hB.2.2.1 c (by omega); omega⟩)
  obtain ⟨τ3, e3⟩ : ∃ x, x = ma_183_99 N τ2 := ⟨_, rfl⟩
  rw [← e3] at h3 F3 ⊢
  have R3 := qv_RF F3 (fun a j h c => by omega) R2
  refine qb_l0 (fun (k : Nat) (q : Int32 × qa_S) => q.1 = nI k ∧ qb_F (fun a _ => a = 109) τ3 q.2 ∧ ∀ m, m < k → q.2 109 m = nI (qs_gl n s T m)) (fun (q : Int32 × qa_S) => qv_R n t s T o b q.2 ∧ (∀ c, c < n → q.2 110 c = nI (s c)) ∧ (∀ m, m < 4 → q.2 109 m = nI (qs_gl n s T m)) ∧ qb_F (fun a _ => 108 ≤ a ∧ a ≤ 111) τ q.2) 4 (by omega) ⟨rfl, qb_Fr, fun m hm => by omega⟩ ?_ ?_
  · rintro k ⟨q1, q2⟩ hk ⟨g1, g2, g3⟩
    dsimp only at g1 g2 g3
    subst g1
    unfold mc_180_99_p38
    dsimp only [qa_in]
    rw [if_pos (show nI k < (4 : Int32) from qb_ltT (b := 4) hk (by omega)), qb_n (k := k) (by omega), qb_s, g2 111 k (by omega), h3 k hk]
    refine ⟨_, rfl, rfl, fun a j h => (qb_uA h).trans (g2 a j h), fun m hm => ?_⟩
    dsimp only
    rw [qb_uJ]
    by_cases e : m = k
    · rw [if_pos e, e]; rfl
    · rw [if_neg e]; exact g3 m (by omega)
  · rintro ⟨q1, q2⟩ ⟨g1, g2, g3⟩
    dsimp only at g1 g2 g3
    subst g1
    unfold mc_180_99_p38
    dsimp only
    rw [if_neg (show ¬ nI 4 < (4 : Int32) by decide)]
    refine ⟨_, rfl, qv_RF g2 (fun a j h c => by omega) R3, fun c hc => ?_, g3, fun a j h => ?_⟩
    · dsimp only
      rw [g2 110 c (by omega), F3 110 c (by omega)]; exact h2 c hc
    · dsimp only
      rw [g2 a j (by omega), F3 a j (by omega), F2 a j (by omega), F1 a j (by omega)]
end QS2
