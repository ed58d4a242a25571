/-! TELLING, MIXING: values by natural numbers -/
def qs_tl (b x : Nat) : Nat := x / (b + 1) * (b + 1)
theorem qs_tlle {b x : Nat} : qs_tl b x ≤ x := Nat.div_mul_le_self x (b + 1)
theorem qs_tle {b x : Nat} (hx : x < 1000000) (hb : b ≤ 9) : nI x - (nI x - nI x / (nI b + 1) * (nI b + 1)) = nI (qs_tl b x) := by
  have := qs_tlle (b := b) (x := x)
  unfold qs_tl at this ⊢
  rw [show nI b + 1 = nI (b + 1) from qb_s, qw_div (by omega) (by omega) (by omega), qw_mul, qw_sub this, qw_sub (by omega)]
  congr 1
  omega
theorem qs_50 {b x : Nat} (hx : x < 1000000) (hb : b ≤ 9) : ma_50 (nI x) (nI b) = nI (qs_tl b x) := by
  unfold ma_50
  rw [if_neg (show ¬ nI b + 1 < 1 from by rw [qb_s]; exact qb_ltF (b := 1) (by omega) (by omega))]
  exact qs_tle hx hb
theorem qs_186 {b x : Nat} {a : Int32} {τ : qa_S} (h : τ 105 a.toNatClampNeg = nI b) (hx : x < 1000000) (hb : b ≤ 9) : ma_186_99 a (nI x) τ = nI (qs_tl b x) := by
  unfold ma_186_99
  rw [h]
  exact qs_tle hx hb
theorem qs_48 : ∀ o, o < 128 → ∀ k, k < 7 → ma_48 (nI o) (nI k) = if o.testBit k then 1 else 0 := by decide +kernel
theorem qs_185 : ∀ o, o < 128 → ∀ k, k < 7 → ma_185 (nI o) (nI k) = if o.testBit k then 1 else 0 := qs_48
/-- two tastes are told unlike at a mark -/
def qs_u (o b : Nat) (x y : Nat → Nat) (m : Nat) : Bool := o.testBit m && !(qs_tl b (x m) == qs_tl b (y m))
def qs_ap (o b : Nat) (x y : Nat → Nat) : Bool := qs_u o b x y 0 || qs_u o b x y 1 || qs_u o b x y 2 || qs_u o b x y 3
/-- the marks at which -/
def qs_un (o b : Nat) (x y : Nat → Nat) : Int32 := qw_f (fun m a => if qs_u o b x y m then a ||| ((1 : Int32) <<< (nI m &&& 31)) else a) 4 0
theorem qs_unz {o b : Nat} {x y : Nat → Nat} : qs_un o b x y = 0 ↔ qs_ap o b x y = false := by
  unfold qs_un qs_ap qw_f qw_f qw_f qw_f qw_f
  generalize qs_u o b x y 0 = p0
  generalize qs_u o b x y 1 = p1
  generalize qs_u o b x y 2 = p2
  generalize qs_u o b x y 3 = p3
  revert p0 p1 p2 p3
  decide +kernel
theorem qs_apr {o b : Nat} {x : Nat → Nat} : qs_ap o b x x = false := by
  have h : ∀ m, qs_u o b x x m = false := fun m => by unfold qs_u; rw [beq_self_eq_true]; cases o.testBit m <;> rfl
  unfold qs_ap
  rw [h, h, h, h]
  rfl
theorem qs_eqi {a b : Nat} (ha : a < 1000000) (hb : b < 1000000) : (nI a = nI b) ↔ (a == b) = true := by rw [qb_eq (by omega) (by omega), beq_iff_eq]
section QS
variable {σ : qa_S} {N o b l2 l3 : Nat} {x y : Nat → Nat}
theorem qs_55 (hN : 5 ≤ N) (ho : o ≤ 15) (hb : b ≤ 9) (hx : ∀ m, m < 4 → σ l2 m = nI (x m) ∧ x m < 1000000) (hy : ∀ m, m < 4 → σ l3 m = nI (y m) ∧ y m < 1000000) : ma_55 N (nI o) (nI b) l2 l3 σ = qs_un o b x y := by
  unfold ma_55
  dsimp only [qa_in]
  refine congrArg Prod.snd (qw_lp (e := fun s => s) (fun k a => (nI k, a)) (fun a => (nI 4, a)) (fun m a => if qs_u o b x y m then a ||| ((1 : Int32) <<< (nI m &&& 31)) else a) 4 0 hN (fun k a hk => ?_) (fun a => ?_))
  · unfold mc_55_p6
    dsimp only
    rw [if_pos (show nI k < (4 : Int32) from qb_ltT (b := 4) hk (by omega)), qb_n (by omega), (hx k hk).1, (hy k hk).1, qs_50 (hx k hk).2 hb, qs_50 (hy k hk).2 hb, qs_48 o (by omega) k (by omega), qb_s]
    have e := qs_eqi (a := qs_tl b (x k)) (b := qs_tl b (y k)) (Nat.lt_of_le_of_lt qs_tlle (hx k hk).2) (Nat.lt_of_le_of_lt qs_tlle (hy k hk).2)
    unfold qs_u
    cases h1 : o.testBit k
    · rfl
    · rw [if_neg (by decide)]
      by_cases h2 : nI (qs_tl b (x k)) = nI (qs_tl b (y k))
      · rw [if_pos h2, e.mp h2]; rfl
      · rw [if_neg h2, Bool.eq_false_iff.mpr (fun c => h2 (e.mpr c))]; rfl
  · unfold mc_55_p6
    dsimp only
    rw [if_neg (show ¬ nI 4 < (4 : Int32) by decide)]
end QS
section QS2
variable {n t : Nat} {s : Nat → Nat} {T : Nat → Nat → Nat} {o b : Nat → Nat} {σ τ : qa_S} {N : Nat}
theorem qs_54 (hN : 5 ≤ N) (hB : qv_B n t s T o b) (hC : qv_C n t s T o b σ) {i : Nat} (hi : i < 6) {l2 l3 : Nat} {x y : Nat → Nat} (hx : ∀ m, m < 4 → σ l2 m = nI (x m) ∧ x m < 1000000) (hy : ∀ m, m < 4 → σ l3 m = nI (y m) ∧ y m < 1000000) : ma_54_3 N (nI i) l2 l3 σ = qs_un (o i) (b i) x y := by
  unfold ma_54_3
  dsimp only [qa_in]
  rw [qb_n (by omega), (hC.2.2.2.2 i hi).1, (hC.2.2.2.2 i hi).2]
  exact qs_55 hN (hB.2.2.2.2 i hi).1 (hB.2.2.2.2 i hi).2 hx hy
theorem qs_53 (hN : 5 ≤ N) (hB : qv_B n t s T o b) (hC : qv_C n t s T o b σ) {i : Nat} (hi : i < 6) {l2 l3 : Nat} {x y : Nat → Nat} (hx : ∀ m, m < 4 → σ l2 m = nI (x m) ∧ x m < 1000000) (hy : ∀ m, m < 4 → σ l3 m = nI (y m) ∧ y m < 1000000) : ma_53_3 N (nI i) l2 l3 σ = if qs_ap (o i) (b i) x y then 1 else 0 := by
  unfold ma_53_3
  dsimp only [qa_in]
  rw [qs_54 hN hB hC hi hx hy]
  cases h : qs_ap (o i) (b i) x y
  · rw [if_pos (qs_unz.mpr h)]; rfl
  · rw [if_neg (fun c => by rw [qs_unz.mp c] at h; cases h)]; rfl
theorem qs_99 (hN : 10 ≤ N) (hB : qv_B n t s T o b) (hC : qv_C n t s T o b σ) {l2 l3 : Nat} {x y : Nat → Nat} (hx : ∀ m, m < 4 → σ l2 m = nI (x m) ∧ x m < 1000000) (hy : ∀ m, m < 4 → σ l3 m = nI (y m) ∧ y m < 1000000) : ma_99_3 N l2 l3 σ = nI (qs_ct (fun i => qs_ap (o i) (b i) x y) t) := by
  unfold ma_99_3
  dsimp only [qa_in]
  have t6 := hB.2.1
  refine congrArg Prod.snd (qw_lp (e := fun s => s) (fun k (a : Nat) => (nI k, nI a)) (fun a => (nI t, nI a)) (fun k a => if qs_ap (o k) (b k) x y then a + 1 else a) t 0 (by omega) (fun k a hk => ?_) (fun a => ?_))
  · unfold mc_99_3_p5
    dsimp only [qa_in]
    rw [hC.2.1, if_pos (qb_ltT hk (by omega)), qs_53 (by omega) hB hC (by omega) hx hy, qb_s]
    cases qs_ap (o k) (b k) x y
    · rfl
    · rw [if_neg (by decide), qb_s]; rfl
  · unfold mc_99_3_p5
    dsimp only
    rw [hC.2.1, if_neg (qb_ltF (Nat.le_refl t) (by omega))]
/-! mixing -/
def qs_sm (f : Nat → Nat) (n : Nat) : Nat := qw_f (fun c a => a + f c) n 0
theorem qs_sml {f : Nat → Nat} {n h : Nat} (hf : ∀ k, k < n → f k ≤ h) : qs_sm f n ≤ n * h := by
  refine qw_fI (F := fun c a => a + f c) (fun k a => a ≤ k * h) (by omega) (fun k x hk hx => ?_)
  have := hf k hk
  have e : (k + 1) * h = k * h + h := Nat.succ_mul k h
  omega
/-- two casks, as the reference tells them -/
theorem qs_188 (hN : 5 ≤ N) (hB : qv_B n t s T o b) (hR : qv_R n t s T o b τ) {i c d : Nat} (hi : i < 6) (hc : c < n) (hd : d < n) : ma_188_99 N (nI i) (nI c) (nI d) τ = if qs_ap (o i) (b i) (T c) (T d) then 1 else 0 := by
  obtain ⟨n7, t6, hs, hT, ho⟩ := hB
  unfold ma_188_99
  dsimp only [qa_in]
  refine (congrArg Prod.snd (qw_lp (e := fun s => s) (fun k (a : Bool) => (nI k, if a then (1 : Int32) else 0)) (fun a => (nI 4, if a then (1 : Int32) else 0)) (fun m a => a || qs_u (o i) (b i) (T c) (T d) m) 4 false hN (fun k a hk => ?_) (fun a => ?_))).trans ?_
  · unfold mc_188_99_p6
    dsimp only
    rw [if_pos (show nI k < (4 : Int32) from qb_ltT (b := 4) hk (by omega)), qb_i4 c (by omega) k hk, qb_i4 d (by omega) k hk, hR.2.2.2.2 c k hc hk, hR.2.2.2.2 d k hd hk, qs_186 (by rw [qb_n (by omega)]; exact (hR.2.2.2.1 i hi).2) (by have := hT c k hc hk; omega) (ho i hi).2, qs_186 (by rw [qb_n (by omega)]; exact (hR.2.2.2.1 i hi).2) (by have := hT d k hd hk; omega) (ho i hi).2, qb_n (by omega), (hR.2.2.2.1 i hi).1, qs_185 (o i) (by have := (ho i hi).1; omega) k (by omega), qb_s]
    have e := qs_eqi (a := qs_tl (b i) (T c k)) (b := qs_tl (b i) (T d k)) (Nat.lt_of_le_of_lt qs_tlle (by have := hT c k hc hk; omega)) (Nat.lt_of_le_of_lt qs_tlle (by have := hT d k hd hk; omega))
    unfold qs_u
    cases a
    · rw [if_pos (by decide)]
      cases h1 : (o i).testBit k
      · rfl
      · rw [if_neg (by decide)]
        by_cases h2 : nI (qs_tl (b i) (T c k)) = nI (qs_tl (b i) (T d k))
        · rw [if_pos h2, e.mp h2]; rfl
        · rw [if_neg h2, Bool.eq_false_iff.mpr (fun c => h2 (e.mpr c))]; rfl
    · rfl
  · unfold mc_188_99_p6
    dsimp only
    rw [if_neg (show ¬ nI 4 < (4 : Int32) by decide)]
  · rfl
end QS2
