/-! THE FUNCTIONS: loops, numbers, places -/
theorem qb_lp {T B : Type} {e : T → B} {step : T → T ⊕ B} (I : Nat → T → Prop) (Q : B → Prop) (b : Nat) (h : ∀ k s, k < b → I k s → (∃ s', step s = .inl s' ∧ I (k + 1) s') ∨ (∃ x, step s = .inr x ∧ Q x)) (hb : ∀ s, I b s → ∃ x, step s = .inr x ∧ Q x) : ∀ (N k : Nat) (s : T), k ≤ b → b - k < N → I k s → Q (qa_wh e step N s) := by
  intro N
  induction N with
  | zero => intro k s _ h2 _; omega
  | succ N ih =>
    intro k s h1 h2 hI
    by_cases e : k = b
    · subst e
      obtain ⟨x, hx, hq⟩ := hb s hI
      rw [qa_whr hx]
      exact hq
    · rcases h k s (by omega) hI with ⟨s', hs, hi⟩ | ⟨x, hx, hq⟩
      · rw [qa_whl hs]
        exact ih (k + 1) s' (by omega) (by omega) hi
      · rw [qa_whr hx]
        exact hq
/-- a loop that is left at its end alone -/
theorem qb_l0 {T B : Type} {e : T → B} {step : T → T ⊕ B} {N : Nat} {s : T} (I : Nat → T → Prop) (Q : B → Prop) (b : Nat) (hN : b < N) (h0 : I 0 s) (h : ∀ k s, k < b → I k s → ∃ s', step s = .inl s' ∧ I (k + 1) s') (hb : ∀ s, I b s → ∃ x, step s = .inr x ∧ Q x) : Q (qa_wh e step N s) :=
  qb_lp I Q b (fun k s hk hi => Or.inl (h k s hk hi)) hb N 0 s (Nat.zero_le _) (by omega) h0
theorem qb_inP {A B : Type} {P : B → Prop} {t : A} {F : A → B} (h : ∀ r, r = t → P (F r)) : P (qa_in t F) := h t rfl
theorem qb_n {k : Nat} (h : k < 2147483648) : (nI k).toNatClampNeg = k := by
  have := nI_toInt (n := k) h
  have e : (nI k).toNatClampNeg = (nI k).toInt.toNat := rfl
  rw [e, this]
  rfl
theorem qb_s {k : Nat} : nI k + (1 : Int32) = nI (k + 1) := (Int32.ofNat_add k 1).symm
theorem qb_lt {a b : Nat} (ha : a < 2147483648) (hb : b < 2147483648) : nI a < nI b ↔ a < b := by
  rw [Int32.lt_iff_toInt_lt, nI_toInt ha, nI_toInt hb]
  omega
theorem qb_eq {a b : Nat} (ha : a < 2147483648) (hb : b < 2147483648) : nI a = nI b ↔ a = b := by
  rw [← Int32.toInt_inj, nI_toInt ha, nI_toInt hb]
  omega
theorem qb_ltT {a b : Nat} (h : a < b) (hb : b < 2147483648) : nI a < nI b := (qb_lt (by omega) hb).mpr h
theorem qb_ltF {a b : Nat} (h : b ≤ a) (ha : a < 2147483648) : ¬ nI a < nI b := fun c => by have := (qb_lt ha (by omega)).mp c; omega
/-- a number from its bounds -/
theorem qb_ex {x : Int32} {b : Nat} (h : 0 ≤ x.toInt ∧ x.toInt ≤ (b : Int)) : ∃ n, x = nI n ∧ n ≤ b ∧ x.toInt = (n : Int) ∧ x.toNatClampNeg = n := by
  refine ⟨x.toInt.toNat, q53_nI h.1, by omega, by omega, rfl⟩
theorem qb_uE {σ : qa_S} {a j : Nat} {v : Int32} : qa_u σ a j v a j = v := by unfold qa_u; rw [if_pos ⟨rfl, rfl⟩]
theorem qb_uN {σ : qa_S} {a j b i : Nat} {v : Int32} (h : b ≠ a ∨ i ≠ j) : qa_u σ a j v b i = σ b i := by
  unfold qa_u
  rw [if_neg (fun c => by omega)]
theorem qb_uA {σ : qa_S} {a j b i : Nat} {v : Int32} (h : b ≠ a) : qa_u σ a j v b i = σ b i := qb_uN (Or.inl h)
theorem qb_uJ {σ : qa_S} {a j i : Nat} {v : Int32} : qa_u σ a j v a i = if i = j then v else σ a i := by
  unfold qa_u
  by_cases e : i = j
  · rw [if_pos ⟨rfl, e⟩, if_pos e]
  · rw [if_neg (fun c => e c.2), if_neg e]
/-! tastes -/
def qb_b (k f x p : Int32) (z : Bool) : Int32 := if k = 1 then x + f else if k = 2 then x / 2 else if k = 3 then 2 * (x + f) else if k = 4 then 0 else if k = 5 then (bif z then x else (x + p) / 2) else x
def qb_T (K F : Nat → Int32) (R : Nat → Nat → Int32) : Nat → Nat → Int32
  | 0, m => qb_b (K 0) (F 0) (3 * R 0 m) 0 true
  | c + 1, m => qb_b (K (c + 1)) (F (c + 1)) (3 * R (c + 1) m) (qb_T K F R c m) false
theorem qb_Tx {K F K' F' : Nat → Int32} {R R' : Nat → Nat → Int32} {n : Nat} (hK : ∀ c, c < n → K c = K' c) (hF : ∀ c, c < n → F c = F' c) (hR : ∀ c m, c < n → m < 4 → R c m = R' c m) : ∀ c m, c < n → m < 4 → qb_T K F R c m = qb_T K' F' R' c m := by
  intro c
  induction c with
  | zero => intro m hc hm; unfold qb_T; rw [hK 0 hc, hF 0 hc, hR 0 m hc hm]
  | succ c ih => intro m hc hm; unfold qb_T; rw [hK _ hc, hF _ hc, hR _ m hc hm, ih m (by omega) hm]
theorem qb_i4 : ∀ c, c < 7 → ∀ m, m < 4 → ((4 : Int32) * nI c + nI m).toNatClampNeg = 4 * c + m := by decide
theorem qb_i4p : ∀ c, c < 6 → ∀ m, m < 4 → ((4 : Int32) * nI (c + 1) - 4 + nI m).toNatClampNeg = 4 * c + m := by decide
/-- the class brews -/
theorem qb_30 {σ : qa_S} {K F : Nat → Int32} {R : Nat → Nat → Int32} {c m : Nat} (hc : c < 7) (hm : m < 4) (hK : σ 5 c = K c) (hF : σ 6 c = F c) (hR : σ (9 + c) m = R c m) (hp : ∀ d, c = d + 1 → σ (17 + d) m = qb_T K F R d m) : ma_30_4 (nI c) (nI m) σ = qb_T K F R c m := by
  have e : ∀ d, (qb_b (K c) (F c) (3 * R c m) (qb_T K F R d m) (decide (c = 0))) = (if K c = 1 then 3 * R c m + F c else if K c = 2 then 3 * R c m / 2 else if K c = 3 then 2 * (3 * R c m + F c) else if K c = 4 then 0 else if K c = 5 then (if nI c = 0 then 3 * R c m else (3 * R c m + qb_T K F R d m) / 2) else 3 * R c m) := by
    intro d
    unfold qb_b
    have hz : (nI c = 0) ↔ c = 0 := qb_eq (b := 0) (by omega) (by decide)
    by_cases h : c = 0
    · rw [if_pos (hz.mpr h), decide_eq_true h, cond_true]
    · rw [if_neg (fun x => h (hz.mp x)), decide_eq_false h, cond_false]
  unfold ma_30_4
  rw [qb_n (by omega), qb_n (by omega), hK, hF, hR]
  cases c with
  | zero =>
    have := e 0
    rw [show decide (0 = 0) = true from rfl] at this
    show _ = qb_b _ _ _ _ _
    have h2 : ∀ p q, qb_b (K 0) (F 0) (3 * R 0 m) p true = qb_b (K 0) (F 0) (3 * R 0 m) q true := fun p q => rfl
    rw [h2 _ (qb_T K F R 0 m), this]
    rfl
  | succ d =>
    have h1 : (nI (d + 1) - (1 : Int32)).toNatClampNeg = d := by
      have : nI (d + 1) - (1 : Int32) = nI d := by rw [← qb_s]; exact Int32.add_sub_cancel _ _
      rw [this, qb_n (by omega)]
    rw [h1, hp d rfl, ← e d]
    rfl
