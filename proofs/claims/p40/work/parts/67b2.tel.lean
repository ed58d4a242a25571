/-! TELLING, MIXING: values by natural numbers -/
def qs_tl (b x : Nat) : Nat := x / (b + 1) * (b + 1)
theorem qs_tlle {b x : Nat} : qs_tl b x ≤ x := Nat.div_mul_le_self x (b + 1)
theorem qs_tle {b x : Nat} (hx : x < 1000000) (hb : b ≤ 9) : nI x - (nI x - nI x / (nI b + 1) * (nI b + 1)) = nI (qs_tl b x) := by
  have := qs_tlle (b := b) (x := x)
  unfold qs_tl at this ⊢
  rw [show nI b + 1 = nI (b + 1) from qb_s, qw_div (by omega) (by omega) (by omega), qw_mul, qw_sub this, qw_sub (by omega)]
  congr 1
  omega
theorem qs_50 {b x : Nat} (hx : x < 1000000) (hb : b ≤ 9) : ma_50 (nI x) (nI b) = nI (qs_tl b x) := by
  unfold ma_50
  rw [if_neg (show ¬ nI b + 1 < 1 from by rw [qb_s]; exact qb_ltF (b := 1) (by omega) (by omega))]
  exact qs_tle hx hb
theorem qs_186 {b x : Nat} {a : Int32} {τ : qa_S} (h : τ 105 a.toNatClampNeg = nI b) (hx : x < 1000000) (hb : b ≤ 9) : ma_186_99 a (nI x) τ = nI (qs_tl b x) := by
  unfold ma_186_99
  rw [h]
  exact qs_tle hx hb
theorem qs_b0 : (if false = true then (1 : Int32) else 0) = 0 := rfl
theorem qs_b1 : ¬ (if true = true then (1 : Int32) else 0) = 0 := by decide
theorem qw_z {a : Nat} (h : a < 2147483648) : nI a = 0 ↔ a = 0 := qb_eq (b := 0) h (by omega)
theorem qs_48 : ∀ o, o < 128 → ∀ k, k < 7 → ma_48 (nI o) (nI k) = if o.testBit k then 1 else 0 := by decide +kernel
theorem qs_185 : ∀ o, o < 128 → ∀ k, k < 7 → ma_185 (nI o) (nI k) = if o.testBit k then 1 else 0 := qs_48
theorem qs_48e : ∀ k, k < 7 → ma_48 (-1) (nI k) = 1 := by decide +kernel
/-- two tastes are told unlike at a mark -/
def qs_u (o b : Nat) (x y : Nat → Nat) (m : Nat) : Bool := o.testBit m && !(qs_tl b (x m) == qs_tl b (y m))
def qs_ap (o b : Nat) (x y : Nat → Nat) : Bool := qs_u o b x y 0 || qs_u o b x y 1 || qs_u o b x y 2 || qs_u o b x y 3
/-- the marks at which -/
def qs_un (o b : Nat) (x y : Nat → Nat) : Int32 := qw_f (fun m a => if qs_u o b x y m then a ||| ((1 : Int32) <<< (nI m &&& 31)) else a) 4 0
theorem qs_unz {o b : Nat} {x y : Nat → Nat} : qs_un o b x y = 0 ↔ qs_ap o b x y = false := by
  unfold qs_un qs_ap qw_f qw_f qw_f qw_f qw_f
  generalize qs_u o b x y 0 = p0
  generalize qs_u o b x y 1 = p1
  generalize qs_u o b x y 2 = p2
  generalize qs_u o b x y 3 = p3
  revert p0 p1 p2 p3
  decide +kernel
theorem qs_eqi {a b : Nat} (ha : a < 1000000) (hb : b < 1000000) : (nI a = nI b) ↔ (a == b) = true := by rw [qb_eq (by omega) (by omega), beq_iff_eq]
section QS
variable {σ : qa_S} {N o b l2 l3 : Nat} {x y : Nat → Nat}
theorem qs_55 (hN : 5 ≤ N) (ho : o ≤ 15) (hb : b ≤ 9) (hx : ∀ m, m < 4 → σ l2 m = nI (x m) ∧ x m < 1000000) (hy : ∀ m, m < 4 → σ l3 m = nI (y m) ∧ y m < 1000000) : ma_55 N (nI o) (nI b) l2 l3 σ = qs_un o b x y := by
  unfold ma_55
  dsimp only [qa_in]
  refine congrArg Prod.snd (qw_lp (e := fun s => s) (fun k a => (nI k, a)) (fun a => (nI 4, a)) (fun m a => if qs_u o b x y m then a ||| ((1 : Int32) <<< (nI m &&& 31)) else a) 4 0 hN (fun k a hk => ?_) (fun a => ?_))
  · unfold mc_55_p6
    dsimp only
    rw [if_pos (show nI k < (4 : Int32) from qb_ltT (b := 4) hk (by omega)), qb_n (by omega), (hx k hk).1, (hy k hk).1, qs_50 (hx k hk).2 hb, qs_50 (hy k hk).2 hb, qs_48 o (by omega) k (by omega), qb_s]
    have e := qs_eqi (a := qs_tl b (x k)) (b := qs_tl b (y k)) (Nat.lt_of_le_of_lt qs_tlle (hx k hk).2) (Nat.lt_of_le_of_lt qs_tlle (hy k hk).2)
    unfold qs_u
    cases h1 : o.testBit k
    · rfl
    · rw [if_neg (by decide)]
      by_cases h2 : nI (qs_tl b (x k)) = nI (qs_tl b (y k))
      · rw [if_pos h2, e.mp h2]; rfl
      · rw [if_neg h2, Bool.eq_false_iff.mpr (fun c => h2 (e.mpr c))]; rfl
  · unfold mc_55_p6
    dsimp only
    rw [if_neg (show ¬ nI 4 < (4 : Int32) by decide)]
end QS
section QS2
variable {n t : Nat} {s : Nat → Nat} {T : Nat → Nat → Nat} {o b : Nat → Nat} {σ τ : qa_S} {N : Nat}
theorem qs_54 (hN : 5 ≤ N) (hB : qv_B n t s T o b) (hC : qv_C n t s T o b σ) {i : Nat} (hi : i < 6) {l2 l3 : Nat} {x y : Nat → Nat} (hx : ∀ m, m < 4 → σ l2 m = nI (x m) ∧ x m < 1000000) (hy : ∀ m, m < 4 → σ l3 m = nI (y m) ∧ y m < 1000000) : ma_54_3 N (nI i) l2 l3 σ = qs_un (o i) (b i) x y := by
  unfold ma_54_3
  dsimp only [qa_in]
  rw [qb_n (by omega), (hC.2.2.2.2 i hi).1, (hC.2.2.2.2 i hi).2]
  exact qs_55 hN (hB.2.2.2.2 i hi).1 (hB.2.2.2.2 i hi).2 hx hy
theorem qs_53 (hN : 5 ≤ N) (hB : qv_B n t s T o b) (hC : qv_C n t s T o b σ) {i : Nat} (hi : i < 6) {l2 l3 : Nat} {x y : Nat → Nat} (hx : ∀ m, m < 4 → σ l2 m = nI (x m) ∧ x m < 1000000) (hy : ∀ m, m < 4 → σ l3 m = nI (y m) ∧ y m < 1000000) : ma_53_3 N (nI i) l2 l3 σ = if qs_ap (o i) (b i) x y then 1 else 0 := by
  unfold ma_53_3
  dsimp only [qa_in]
  rw [qs_54 hN hB hC hi hx hy]
  cases h : qs_ap (o i) (b i) x y
  · rw [if_pos (qs_unz.mpr h)]; rfl
  · rw [if_neg (fun c => by rw [qs_unz.mp c] at h; cases h)]; rfl
/-! mixing -/
def qs_sm (f : Nat → Nat) (n : Nat) : Nat := qw_f (fun c a => a + f c) n 0
theorem qs_sml {f : Nat → Nat} {n h : Nat} (hf : ∀ k, k < n → f k ≤ h) : qs_sm f n ≤ n * h := by
  refine qw_fI (F := fun c a => a + f c) (fun k a => a ≤ k * h) (by omega) (fun k x hk hx => ?_)
  have := hf k hk
  have e : (k + 1) * h = k * h + h := Nat.succ_mul k h
  omega
/-- a glass of shares s, and of water -/
def qs_mx (n : Nat) (s : Nat → Nat) (T : Nat → Nat → Nat) (w m : Nat) : Nat := qs_sm (fun c => s c * T c m) n / (w + qs_sm s n)
theorem qs_mxl {n : Nat} {s : Nat → Nat} {T : Nat → Nat → Nat} {w m : Nat} (hn : n ≤ 7) (hs : ∀ c, c < n → s c ≤ 99) (hT : ∀ c, c < n → T c m ≤ 99) : qs_sm (fun c => s c * T c m) n ≤ 68607 ∧ qs_sm s n ≤ 693 ∧ qs_mx n s T w m < 1000000 := by
  have h1 : qs_sm (fun c => s c * T c m) n ≤ n * (99 * 99) := qs_sml (fun k hk => Nat.mul_le_mul (hs k hk) (hT k hk))
  have h2 : qs_sm s n ≤ n * 99 := qs_sml hs
  have h3 := Nat.div_le_self (qs_sm (fun c => s c * T c m) n) (w + qs_sm s n)
  unfold qs_mx
  refine ⟨?_, ?_, ?_⟩ <;> omega
/-- the class mixes -/
theorem qs_47 {S0 : Int32} {w a4 l1 : Nat} {e : Nat → Bool} {s1 : Nat → Nat} (hN : 10 ≤ N) (hB : qv_B n t s T o b) (hC : qv_C n t s T o b σ) (hw : w ≤ 1000) (h4 : a4 = 94 ∨ a4 = 95) (hl : l1 = 7 ∨ l1 = 92) (h1 : ∀ c, c < n → σ l1 c = nI (s1 c) ∧ s1 c ≤ 99) (hS : ∀ c, c < n → ma_48 S0 (nI c) = if e c then 1 else 0) : (∀ m, m < 4 → ma_47_4 N l1 S0 (nI w) a4 σ a4 m = nI (qs_mx n (fun c => if e c then s1 c else 0) T w m)) ∧ qb_F (fun a _ => a = a4) σ (ma_47_4 N l1 S0 (nI w) a4 σ) := by
  obtain ⟨n7, t6, hs, hT, -⟩ := hB
  unfold ma_47_4
  dsimp only [qa_in]
  refine qb_l0 (fun (k : Nat) (q : Int32 × qa_S) => q.1 = nI k ∧ (∀ m, m < k → q.2 a4 m = nI (qs_mx n (fun c => if e c then s1 c else 0) T w m)) ∧ qb_F (fun a _ => a = a4) σ q.2) (fun (q : Int32 × qa_S) => (∀ m, m < 4 → q.2 a4 m = nI (qs_mx n (fun c => if e c then s1 c else 0) T w m)) ∧ qb_F (fun a _ => a = a4) σ q.2) 4 (by omega) ⟨rfl, fun m hm => by omega, qb_Fr⟩ ?_ ?_
  · rintro k ⟨q1, q2⟩ hk ⟨g1, g2, g3⟩
    dsimp only at g1 g2 g3
    subst g1
    have C2 := qv_CF g3 (fun a j h c => by omega) hC n7
    have L : qa_wh (fun s => s) (mc_47_4_p18 N l1 S0 (nI w) a4 (nI k) q2) N ((0 : Int32), (0 : Int32), nI w) = (nI n, nI (qs_sm (fun c => (if e c then s1 c else 0) * T c k) n), nI (w + qs_sm (fun c => if e c then s1 c else 0) n)) := by
      have := qw_lp (e := fun s => s) (step := mc_47_4_p18 N l1 S0 (nI w) a4 (nI k) q2) (fun j (a : Nat × Nat) => (nI j, nI a.1, nI a.2)) (fun a => (nI n, nI a.1, nI a.2)) (fun c a => (a.1 + (if e c then s1 c else 0) * T c k, a.2 + (if e c then s1 c else 0))) n (0, w) (N := N) (by omega) (fun j a hj => ?_) (fun a => ?_)
      · refine this.trans ?_
        have E : ∀ j, qw_f (fun c (a : Nat × Nat) => (a.1 + (if e c then s1 c else 0) * T c k, a.2 + (if e c then s1 c else 0))) j (0, w) = (qs_sm (fun c => (if e c then s1 c else 0) * T c k) j, w + qs_sm (fun c => if e c then s1 c else 0) j) := by
          intro j
          induction j with
          | zero => rfl
          | succ j ih =>
            show (_, _) = _
            rw [ih]
            refine Prod.ext rfl ?_
            exact Nat.add_assoc _ _ _
        rw [E n]
      · unfold mc_47_4_p18
        dsimp only
        rw [C2.1, if_pos (qb_ltT hj (by omega)), qb_n (k := j) (by omega), qb_n (k := k) (by omega), g3 l1 j (by omega), (h1 j hj).1, C2.2.2.2.1 j k hj hk, hS j hj, qb_s, qw_mul, qw_add, qw_add]
        cases e j
        · have zz : (if false = true then (1 : Int32) else 0) = 0 := rfl
          rw [if_pos zz, if_pos zz]
          refine congrArg Sum.inl (Prod.ext rfl (Prod.ext ?_ rfl))
          show nI a.1 = nI (a.1 + 0 * T j k)
          rw [Nat.zero_mul]
          rfl
        · rw [if_neg (by decide), if_neg (by decide)]
          rfl
      · unfold mc_47_4_p18
        dsimp only
        rw [C2.1, if_neg (qb_ltF (Nat.le_refl n) (by omega))]
    unfold mc_47_4_p3
    dsimp only
    rw [if_pos (show nI k < (4 : Int32) from qb_ltT (b := 4) hk (by omega)), L]
    unfold qa_in
    dsimp only
    have s99 : ∀ c, c < n → (if e c then s1 c else 0) ≤ 99 := fun c hc => by have := (h1 c hc).2; split <;> omega
    obtain ⟨b1, b2, b3⟩ := qs_mxl (w := w) (m := k) n7 s99 (fun c hc => hT c k hc hk)
    refine ⟨_, rfl, qb_s, fun m hm => ?_, fun a i ha => ?_⟩
    · dsimp only
      rw [qb_n (k := k) (by omega), qb_uJ]
      by_cases c : m = k
      · rw [if_pos c, c]
        unfold qs_mx
        by_cases z : w + qs_sm (fun c => if e c then s1 c else 0) n = 0
        · rw [z, if_pos (show nI 0 = 0 from rfl), Nat.div_zero]; rfl
        · rw [if_neg (fun c => z ((qw_z (by omega)).mp c)), qw_div (by omega) (by omega) (by omega)]
      · rw [if_neg c]
        exact g2 m (by omega)
    · dsimp only
      rw [qb_uA (by omega)]
      exact g3 a i ha
  · rintro ⟨q1, q2⟩ ⟨g1, g2, g3⟩
    dsimp only at g1 g2 g3
    subst g1
    unfold mc_47_4_p3
    dsimp only
    rw [if_neg (show ¬ nI 4 < (4 : Int32) by decide)]
    exact ⟨_, rfl, g2, g3⟩
end QS2
