/-! CALLS: the class's and the reference's, one behind the other -/
theorem qb_158 (x y z : Int64) : ma_158 x y z = if y.toInt ≤ x.toInt ∧ x.toInt ≤ z.toInt then 1 else 0 := by
  unfold ma_158
  rcases q59_cmp x y with ⟨h, e⟩ | ⟨h, e⟩ | ⟨h, e⟩
  · rw [e, if_pos (by decide), if_neg (by omega)]
  · rw [e, if_neg (by decide)]
    rcases q59_cmp x z with ⟨h', e'⟩ | ⟨h', e'⟩ | ⟨h', e'⟩
    · rw [e', if_neg (by decide), if_pos (by omega)]
    · rw [e', if_neg (by decide), if_pos (by omega)]
    · rw [e', if_pos (by decide), if_neg (by omega)]
  · rw [e, if_neg (by decide)]
    rcases q59_cmp x z with ⟨h', e'⟩ | ⟨h', e'⟩ | ⟨h', e'⟩
    · rw [e', if_neg (by decide), if_pos (by omega)]
    · rw [e', if_neg (by decide), if_pos (by omega)]
    · rw [e', if_pos (by decide), if_neg (by omega)]
theorem qb_158z {x y z : Int64} : ma_158 x y z = 0 ↔ ¬ (y.toInt ≤ x.toInt ∧ x.toInt ≤ z.toInt) := by
  rw [qb_158]
  by_cases h : y.toInt ≤ x.toInt ∧ x.toInt ≤ z.toInt
  · rw [if_pos h]; exact ⟨fun c => absurd c (by decide), fun c => absurd h c⟩
  · rw [if_neg h]; exact ⟨fun _ => h, fun _ => rfl⟩
theorem qb_l (x : Int32) : (x.toInt64).toInt = x.toInt := Int32.toInt_toInt64 x
theorem qb_19 {x : Int32} : ma_19 x = 0 ↔ ¬ (0 ≤ x.toInt ∧ x.toInt ≤ 5) := by
  have z : (0 : Int32).toInt = 0 := by decide
  have f : (5 : Int32).toInt = 5 := by decide
  unfold ma_19
  by_cases h1 : x < 0
  · rw [if_pos h1]
    rw [Int32.lt_iff_toInt_lt] at h1
    exact ⟨fun _ => by omega, fun _ => rfl⟩
  · rw [if_neg h1]
    rw [Int32.lt_iff_toInt_lt] at h1
    by_cases h2 : 5 < x
    · rw [if_pos h2]
      rw [Int32.lt_iff_toInt_lt] at h2
      exact ⟨fun _ => by omega, fun _ => rfl⟩
    · rw [if_neg h2]
      rw [Int32.lt_iff_toInt_lt] at h2
      exact ⟨fun c => absurd c (by decide), fun c => by omega⟩
theorem qb_26z {x : Int32} : ma_26 x = 0 ↔ ¬ (0 ≤ x.toInt ∧ x.toInt ≤ 3) := by
  have z : (0 : Int32).toInt = 0 := by decide
  have f : (4 : Int32).toInt = 4 := by decide
  unfold ma_26
  by_cases h1 : x < 0
  · rw [if_pos h1]
    rw [Int32.lt_iff_toInt_lt] at h1
    exact ⟨fun _ => by omega, fun _ => rfl⟩
  · rw [if_neg h1]
    rw [Int32.lt_iff_toInt_lt] at h1
    by_cases h2 : x < 4
    · rw [if_pos h2]
      rw [Int32.lt_iff_toInt_lt] at h2
      exact ⟨fun c => absurd c (by decide), fun c => by omega⟩
    · rw [if_neg h2]
      rw [Int32.lt_iff_toInt_lt] at h2
      exact ⟨fun _ => by omega, fun _ => rfl⟩
theorem qb_22 {x : Int32} {σ : qa_S} {n : Nat} (hn : n ≤ 7) (h : σ 4 0 = nI n) : ma_22_4 x σ = 0 ↔ ¬ (0 ≤ x.toInt ∧ x.toInt < n) := by
  have z : (0 : Int32).toInt = 0 := by decide
  have f : (nI n).toInt = n := nI_toInt (by omega)
  unfold ma_22_4
  by_cases h1 : x < 0
  · rw [if_pos h1]
    rw [Int32.lt_iff_toInt_lt] at h1
    exact ⟨fun _ => by omega, fun _ => rfl⟩
  · rw [if_neg h1, h]
    rw [Int32.lt_iff_toInt_lt] at h1
    by_cases h2 : x < nI n
    · rw [if_pos h2]
      rw [Int32.lt_iff_toInt_lt] at h2
      exact ⟨fun c => absurd c (by decide), fun c => by omega⟩
    · rw [if_neg h2]
      rw [Int32.lt_iff_toInt_lt] at h2
      exact ⟨fun _ => by omega, fun _ => rfl⟩
theorem qb_33 {x : Int32} {σ : qa_S} {n : Nat} (hn : n ≤ 7) (h : σ 4 1 = nI n) : ma_33_4 x σ = 0 ↔ ¬ (0 ≤ x.toInt ∧ x.toInt < n) := by
  have z : (0 : Int32).toInt = 0 := by decide
  have f : (nI n).toInt = n := nI_toInt (by omega)
  unfold ma_33_4
  by_cases h1 : x < 0
  · rw [if_pos h1]
    rw [Int32.lt_iff_toInt_lt] at h1
    exact ⟨fun _ => by omega, fun _ => rfl⟩
  · rw [if_neg h1, h]
    rw [Int32.lt_iff_toInt_lt] at h1
    by_cases h2 : x < nI n
    · rw [if_pos h2]
      rw [Int32.lt_iff_toInt_lt] at h2
      exact ⟨fun c => absurd c (by decide), fun c => by omega⟩
    · rw [if_neg h2]
      rw [Int32.lt_iff_toInt_lt] at h2
      exact ⟨fun _ => by omega, fun _ => rfl⟩
theorem qb_163 {x : Int32} {σ : qa_S} {n : Nat} (hn : n ≤ 7) (h : σ 99 0 = nI n) : ma_163_99 x σ = 0 ↔ ¬ (0 ≤ x.toInt ∧ x.toInt < n) := by
  have f : (nI n - 1).toInt = (n : Int) - 1 := by
    have : ∀ n, n ≤ 7 → (nI n - 1).toInt = (n : Int) - 1 := by decide
    exact this n hn
  unfold ma_163_99
  rw [qb_158z, h, qb_l, qb_l, f, show (0 : Int64).toInt = 0 by decide]
  omega
theorem qb_171 {x : Int32} {σ : qa_S} {n : Nat} (hn : n ≤ 7) (h : σ 99 5 = nI n) : ma_171_99 x σ = 0 ↔ ¬ (0 ≤ x.toInt ∧ x.toInt < n) := by
  have f : (nI n - 1).toInt = (n : Int) - 1 := by
    have : ∀ n, n ≤ 7 → (nI n - 1).toInt = (n : Int) - 1 := by decide
    exact this n hn
  unfold ma_171_99
  rw [qb_158z, h, qb_l, qb_l, f, show (0 : Int64).toInt = 0 by decide]
  omega
theorem qb_165 {x : Int32} : ma_165 x = 0 ↔ ¬ (0 ≤ x.toInt ∧ x.toInt ≤ 3) := by
  unfold ma_165
  rw [qb_158z, qb_l, show (0 : Int64).toInt = 0 by decide, show (3 : Int64).toInt = 3 by decide]
/-- a refusal on both sides -/
def qb_rf (c : Nat) (σ : qa_S) : qa_S := qa_u σ 93 c (σ 93 c + 1)
def qb_rg (c : Nat) (σ : qa_S) : qa_S := qa_u (qa_u σ 99 9 0) 107 c (qa_u σ 99 9 0 107 c + 1)
theorem qb_rfI {xx yy : Prop} {σ : qa_S} {c : Nat} (hI : qb_I xx yy σ) : qb_I xx yy (qb_rg c (qb_rf c σ)) := by
  have hF : qb_F (fun a j => (a = 93 ∧ j = c) ∨ (a = 99 ∧ j = 9) ∨ (a = 107 ∧ j = c)) σ (qb_rg c (qb_rf c σ)) := fun a j h => by
    unfold qb_rg qb_rf
    rw [qb_uN (by omega), qb_uN (by omega), qb_uN (by omega)]
  obtain ⟨iA, iB, iC, iE, iW, iX, iY, iQ⟩ := hI
  have hm := fun i hi => qb_Am (i := i) hF (fun a j r => by unfold qb_rM at r; omega) hi
  refine ⟨qb_AF hF (fun a j r => by unfold qb_rA at r; omega) iA, qb_BF hF (fun a j r => by unfold qb_rB at r; omega) iB, qb_CF hF (fun a j r => by unfold qb_rC at r; omega) iC, qb_EF hF (fun a j r => by unfold qb_rE at r; omega) hm iE, qb_WF hF (fun a j r => by unfold qb_rW at r; omega) iW, fun hx i hi => ?_, qb_YF hF (fun a j r => by unfold qb_rY at r; omega) iA hm iY, (fun hx => qb_QF hF (fun a j r => by unfold qb_rQ at r; omega) (iQ hx))⟩
  by_cases e : i = c
  · subst e
    unfold qb_rg qb_rf
    rw [qb_uA (by omega), qb_uA (by omega), qb_uE, qb_uE, qb_uA (by omega), qb_uA (by omega), iX hx i hi]
  · rw [hF 93 i (by omega), hF 107 i (by omega)]
    exact iX hx i hi
theorem qb_Ds {V : Nat → Int32} {p : Nat} {x : Int32} (h : qb_D V) (hx : 0 ≤ x.toInt ∧ x.toInt ≤ (qb_hi p : Int)) : qb_D (qb_set V p x) := fun i hi => by
  unfold qb_set
  by_cases e : i = p
  · rw [if_pos e, e]; exact hx
  · rw [if_neg e]; exact h i hi
theorem qb_hK {c : Nat} (h : c < 7) : qb_hi (2 + 3 * c) = 5 := by unfold qb_hi; rw [if_neg (by omega), if_neg (by omega), if_pos (by omega), if_pos (by omega)]
theorem qb_hG {c : Nat} (h : c < 7) : qb_hi (3 + 3 * c) = 9 := by unfold qb_hi; rw [if_neg (by omega), if_neg (by omega), if_pos (by omega), if_neg (by omega)]
theorem qb_hS {c : Nat} (h : c < 7) : qb_hi (4 + 3 * c) = 9 := by unfold qb_hi; rw [if_neg (by omega), if_neg (by omega), if_pos (by omega), if_neg (by omega)]
theorem qb_hM {c m : Nat} (h : c < 7) (hm : m < 4) : qb_hi (23 + 4 * c + m) = 9 := by unfold qb_hi; rw [if_neg (by omega), if_neg (by omega), if_neg (by omega), if_pos (by omega)]
theorem qb_hO {t : Nat} (h : t < 6) : qb_hi (51 + 3 * t) = 15 := by unfold qb_hi; rw [if_neg (by omega), if_neg (by omega), if_neg (by omega), if_neg (by omega), if_pos (by omega)]
theorem qb_hB {t : Nat} (h : t < 6) : qb_hi (52 + 3 * t) = 9 := by unfold qb_hi; rw [if_neg (by omega), if_neg (by omega), if_neg (by omega), if_neg (by omega), if_neg (by omega)]
theorem qb_hY {t : Nat} (h : t < 6) : qb_hi (53 + 3 * t) = 9 := by unfold qb_hi; rw [if_neg (by omega), if_neg (by omega), if_neg (by omega), if_neg (by omega), if_neg (by omega)]
theorem qb_d10 {z : Int32} (h : 0 ≤ z.toInt) : 0 ≤ (z / 10).toInt ∧ (0 ≤ (z - z / 10 * 10).toInt ∧ (z - z / 10 * 10).toInt ≤ 9) := by
  have t : (10 : Int32).toInt = 10 := by decide
  have a := q53_idiv (X := z) (Y := 10) (by omega)
  have b := q53_irem z 10 (by omega)
  have c := (q53_tdiv (x := z.toInt) (y := (10 : Int32).toInt) (by omega)).1 h
  rw [t] at a b c
  refine ⟨by omega, ?_⟩
  rw [b, Int.tmod_eq_emod_of_nonneg h]
  omega
theorem qb_dgb {m : Nat} {z : Int32} (h : 0 ≤ z.toInt) : 0 ≤ (qb_dg m z).toInt ∧ (qb_dg m z).toInt ≤ 9 := by
  have hr : 0 ≤ (qb_rs m z).toInt := by
    unfold qb_rs
    split
    · exact (qb_d10 (qb_d10 (qb_d10 h).1).1).1
    · exact (qb_d10 (qb_d10 h).1).1
    · exact (qb_d10 h).1
    · exact h
  exact (qb_d10 hr).2
theorem qb_DaC {V : Nat → Int32} {u : Nat} {k f z : Int32} (h : qb_D V) (hu : u < 7) (hk : 0 ≤ k.toInt ∧ k.toInt ≤ 5) (hf : 0 ≤ f.toInt ∧ f.toInt ≤ 9) (hz : 0 ≤ z.toInt) : qb_D (qb_addC V u k f z) := by
  have z0 : (0 : Int32).toInt = 0 := by decide
  have e : (nI (u + 1)).toInt = ((u + 1 : Nat) : Int) := nI_toInt (by omega)
  unfold qb_addC
  refine qb_Ds (qb_Ds (qb_Ds (qb_Ds (qb_Ds (qb_Ds (qb_Ds (qb_Ds h ?_) ?_) ?_) ?_) ?_) ?_) ?_) ?_
  · rw [qb_hK hu]; exact hk
  · rw [qb_hG hu]; exact hf
  · rw [qb_hS hu, z0]; decide
  · rw [qb_hM hu (by omega)]; exact qb_dgb hz
  · rw [qb_hM hu (by omega)]; exact qb_dgb hz
  · rw [qb_hM hu (by omega)]; exact qb_dgb hz
  · rw [qb_hM hu (by omega)]; exact qb_dgb hz
  · rw [e, show qb_hi 0 = 7 from rfl]; omega
theorem qb_DaT {V : Nat → Int32} {u : Nat} {b l y : Int32} (h : qb_D V) (hu : u < 6) (hb : 0 ≤ b.toInt ∧ b.toInt ≤ 15) (hl : 0 ≤ l.toInt ∧ l.toInt ≤ 9) (hy : 0 ≤ y.toInt ∧ y.toInt ≤ 9) : qb_D (qb_addT V u b l y) := by
  have e : (nI (u + 1)).toInt = ((u + 1 : Nat) : Int) := nI_toInt (by omega)
  unfold qb_addT
  refine qb_Ds (qb_Ds (qb_Ds (qb_Ds h ?_) ?_) ?_) ?_
  · rw [qb_hO hu]; exact hb
  · rw [qb_hB hu]; exact hl
  · rw [qb_hY hu]; exact hy
  · rw [e, show qb_hi 1 = 6 from rfl]; omega
/-- the class brews again -/
theorem qb_28 {σ : qa_S} {V : Nat → Int32} {N : Nat} (hN : 1000 ≤ N) (hV : ∀ i, i < 69 → qb_gc 4 σ i = V i) (hD : qb_D V) : (∀ i, i < 69 → qb_gc 4 (ma_28_3 N σ) i = V i) ∧ (∀ c m : Nat, (c : Int) < (V 0).toInt → m < 4 → ma_28_3 N σ (17 + c) m = qb_TV V c m) ∧ ma_28_3 N σ 3 18 = 1 ∧ qb_F (fun a j => (17 ≤ a ∧ a < 24) ∨ (a = 3 ∧ j = 18)) σ (ma_28_3 N σ) := by
  obtain ⟨n, n1, n2, n3, -⟩ := qb_ex (hD 0 (by omega))
  have n2 : n ≤ 7 := n2
  have h40 : σ 4 0 = nI n := (hV 0 (by omega)).trans n1
  obtain ⟨b1, b2⟩ := qb_29 (σ := σ) (K := fun c => V (2 + 3 * c)) (F := fun c => V (3 + 3 * c)) (R := fun c m => V (23 + 4 * c + m)) (n := n) (N := N) (by omega) n2 h40 (fun c hc => by
    have := hV (2 + 3 * c) (by omega)
    unfold qb_gc at this
    rw [qb_cK (by omega)] at this
    exact this) (fun c hc => by
    have := hV (3 + 3 * c) (by omega)
    unfold qb_gc at this
    rw [qb_cG (by omega)] at this
    exact this) (fun c m hc hm => by
    have := hV (23 + 4 * c + m) (by omega)
    unfold qb_gc at this
    rw [qb_cM (by omega) hm] at this
    exact this)
  have hF : qb_F (fun a j => (17 ≤ a ∧ a < 24) ∨ (a = 3 ∧ j = 18)) σ (ma_28_3 N σ) := fun a j h => by
    unfold ma_28_3
    dsimp only [qa_in]
    rw [qb_uN (by omega)]
    exact b2 a j (by omega)
  refine ⟨fun i hi => (qb_cF hF (fun b j hb => by omega) hi).trans (hV i hi), fun c m hc hm => ?_, ?_, hF⟩
  · unfold ma_28_3
    dsimp only [qa_in]
    rw [qb_uA (by omega)]
    exact b1 c m (by omega) hm
  · unfold ma_28_3
    dsimp only [qa_in]
    rw [qb_uE]
theorem qb_27 {σ : qa_S} {V : Nat → Int32} {N : Nat} (hN : 1000 ≤ N) (hV : ∀ i, i < 69 → qb_gc 4 σ i = V i) (hD : qb_D V) : (∀ i, i < 69 → qb_gc 4 (ma_27_3 N σ) i = V i) ∧ (∀ c m : Nat, (c : Int) < (V 0).toInt → m < 4 → ma_27_3 N σ (17 + c) m = qb_TV V c m) ∧ ma_27_3 N σ 3 18 = 1 ∧ ma_27_3 N σ 85 0 = 0 ∧ qb_F (fun a j => (17 ≤ a ∧ a < 24) ∨ (a = 3 ∧ j = 18) ∨ (a = 85 ∧ j = 0)) σ (ma_27_3 N σ) := by
  obtain ⟨b1, b2, b3, b4⟩ := qb_28 (σ := qa_u σ 85 0 0) (V := V) hN (fun i hi => by
    rw [qb_cF (w := fun a _ => a = 85) (fun a j h => qb_uA h) (fun b j hb => by omega) hi]
    exact hV i hi) hD
  unfold ma_27_3
  dsimp only [qa_in]
  refine ⟨b1, b2, b3, ?_, fun a j h => ?_⟩
  · rw [b4 85 0 (by omega), qb_uE]
  · rw [b4 a j (by omega), qb_uN (by omega)]
/-- all that holds, after a call that left nothing to take back -/
theorem qb_fin {xx yy : Prop} {w : Nat → Nat → Prop} {σ τ : qa_S} (hI : qb_I xx yy σ) (hF : qb_F w σ τ) (hw : ∀ a j, qb_rB a j ∨ qb_rC a j ∨ qb_rW a j ∨ qb_rX a j → ¬ w a j) (hA : qb_iA τ) (h85 : τ 85 0 = 0) (h32 : τ 99 32 = 0) (hY : qb_iY τ) (hs : τ 3 18 = 1) : qb_I xx yy τ := by
  obtain ⟨iA, iB, iC, iE, iW, iX, iY, iQ⟩ := hI
  exact ⟨hA, qb_BF hF (fun a j r => hw a j (Or.inl r)) iB, qb_CF hF (fun a j r => hw a j (Or.inr (Or.inl r))) iC, ⟨0, by omega, h85, h32, fun j hj => absurd hj (Nat.not_lt_zero _)⟩, qb_WF hF (fun a j r => hw a j (Or.inr (Or.inr (Or.inl r)))) iW, fun hx => qb_XF hF (fun a j r => hw a j (Or.inr (Or.inr (Or.inr r)))) (iX hx), hY, fun _ h => absurd (hs.symm.trans h) (by decide)⟩
theorem qb_finE {xx yy : Prop} {w : Nat → Nat → Prop} {σ τ : qa_S} (hI : qb_I xx yy σ) (hF : qb_F w σ τ) (hw : ∀ a j, qb_rB a j ∨ qb_rC a j ∨ qb_rW a j ∨ qb_rX a j → ¬ w a j) (hA : qb_iA τ) (hE : qb_iE τ) (hY : qb_iY τ) (hQ : yy → qb_iQ τ) : qb_I xx yy τ := by
  obtain ⟨iA, iB, iC, iE, iW, iX, iY, iQ⟩ := hI
  exact ⟨hA, qb_BF hF (fun a j r => hw a j (Or.inl r)) iB, qb_CF hF (fun a j r => hw a j (Or.inr (Or.inl r))) iC, hE, qb_WF hF (fun a j r => hw a j (Or.inr (Or.inr (Or.inl r)))) iW, fun hx => qb_XF hF (fun a j r => hw a j (Or.inr (Or.inr (Or.inr r)))) (iX hx), hY, hQ⟩
