/-! the places of a cellar, in the order in which the reference carries them -/
def qb_pm (i : Nat) : Nat × Nat :=
  if i < 2 then (99, 5 * i)
  else if i < 23 then (if (i - 2) % 3 = 0 then 100 else if (i - 2) % 3 = 1 then 101 else 103, (i - 2) / 3)
  else if i < 51 then (102, i - 23)
  else (104 + (i - 51) % 3, (i - 51) / 3)
def qb_pc (a i : Nat) : Nat × Nat :=
  if i < 2 then (a, i)
  else if i < 23 then (a + 1 + (i - 2) % 3, (i - 2) / 3)
  else if i < 51 then (a + 5 + (i - 23) / 4, (i - 23) % 4)
  else (a + 20 + (i - 51) % 3, (i - 51) / 3)
def qb_gc (a : Nat) (σ : qa_S) (i : Nat) : Int32 := σ (qb_pc a i).1 (qb_pc a i).2
def qb_gm (σ : qa_S) (i : Nat) : Int32 := σ (qb_pm i).1 (qb_pm i).2
theorem qb_pcb {a i : Nat} (h : i < 69) : ((qb_pc a i).1 = a ∧ (qb_pc a i).2 < 2) ∨ (a + 1 ≤ (qb_pc a i).1 ∧ (qb_pc a i).1 ≤ a + 3 ∧ (qb_pc a i).2 < 7) ∨ (a + 5 ≤ (qb_pc a i).1 ∧ (qb_pc a i).1 ≤ a + 11 ∧ (qb_pc a i).2 < 4) ∨ (a + 20 ≤ (qb_pc a i).1 ∧ (qb_pc a i).1 ≤ a + 22 ∧ (qb_pc a i).2 < 6) := by
  unfold qb_pc
  by_cases h1 : i < 2
  · rw [if_pos h1]; dsimp only; omega
  · rw [if_neg h1]
    by_cases h2 : i < 23
    · rw [if_pos h2]; dsimp only; omega
    · rw [if_neg h2]
      by_cases h3 : i < 51
      · rw [if_pos h3]; dsimp only; omega
      · rw [if_neg h3]; dsimp only; omega
theorem qb_pmb {i : Nat} (h : i < 69) : ((qb_pm i).1 = 99 ∧ ((qb_pm i).2 = 0 ∨ (qb_pm i).2 = 5)) ∨ (100 ≤ (qb_pm i).1 ∧ (qb_pm i).1 ≤ 106) := by
  unfold qb_pm
  by_cases h1 : i < 2
  · rw [if_pos h1]; dsimp only; omega
  · rw [if_neg h1]
    by_cases h2 : i < 23
    · rw [if_pos h2]; dsimp only
      by_cases h3 : (i - 2) % 3 = 0
      · rw [if_pos h3]; omega
      · rw [if_neg h3]
        by_cases h4 : (i - 2) % 3 = 1
        · rw [if_pos h4]; omega
        · rw [if_neg h4]; omega
    · rw [if_neg h2]
      by_cases h3 : i < 51
      · rw [if_pos h3]; dsimp only; omega
      · rw [if_neg h3]; dsimp only; omega
theorem qb_pmj : ∀ i, i < 69 → ∀ p, p < 69 → qb_pm i = qb_pm p → i = p := by decide +kernel
theorem qb_pcj0 : ∀ i, i < 69 → ∀ p, p < 69 → qb_pc 0 i = qb_pc 0 p → i = p := by decide +kernel
theorem qb_pc0 (a i : Nat) : qb_pc a i = (a + (qb_pc 0 i).1, (qb_pc 0 i).2) := by
  unfold qb_pc
  by_cases h1 : i < 2
  · rw [if_pos h1, if_pos h1]; rfl
  · rw [if_neg h1, if_neg h1]
    by_cases h2 : i < 23
    · rw [if_pos h2, if_pos h2]; ext <;> dsimp only; omega
    · rw [if_neg h2, if_neg h2]
      by_cases h3 : i < 51
      · rw [if_pos h3, if_pos h3]; ext <;> dsimp only; omega
      · rw [if_neg h3, if_neg h3]; ext <;> dsimp only; omega
theorem qb_pcj {a i p : Nat} (hi : i < 69) (hp : p < 69) (e : qb_pc a i = qb_pc a p) : i = p := by
  rw [qb_pc0 a i, qb_pc0 a p] at e
  have e1 := congrArg Prod.fst e
  have e2 := congrArg Prod.snd e
  dsimp only at e1 e2
  exact qb_pcj0 i hi p hp (Prod.ext (by omega) e2)
def qb_set (V : Nat → Int32) (p : Nat) (x : Int32) : Nat → Int32 := fun i => if i = p then x else V i
/-- a place is written -/
theorem qb_cu {σ : qa_S} {a b j p : Nat} {x : Int32} (hp : p < 69) (e : qb_pc a p = (b, j)) {i : Nat} (hi : i < 69) : qb_gc a (qa_u σ b j x) i = qb_set (qb_gc a σ) p x i := by
  unfold qb_gc qb_set
  by_cases h : i = p
  · subst h; rw [if_pos rfl, e]; exact qb_uE
  · rw [if_neg h]
    refine qb_uN ?_
    by_cases h1 : (qb_pc a i).1 = b
    · refine Or.inr (fun h2 => h (qb_pcj (a := a) hi hp ?_))
      rw [e]
      exact Prod.ext h1 h2
    · exact Or.inl h1
theorem qb_mu {σ : qa_S} {b j p : Nat} {x : Int32} (hp : p < 69) (e : qb_pm p = (b, j)) {i : Nat} (hi : i < 69) : qb_gm (qa_u σ b j x) i = qb_set (qb_gm σ) p x i := by
  unfold qb_gm qb_set
  by_cases h : i = p
  · subst h; rw [if_pos rfl, e]; exact qb_uE
  · rw [if_neg h]
    refine qb_uN ?_
    by_cases h1 : (qb_pm i).1 = b
    · refine Or.inr (fun h2 => h (qb_pmj i hi p hp ?_))
      rw [e]
      exact Prod.ext h1 h2
    · exact Or.inl h1
/-- places are left alone -/
theorem qb_cF {w : Nat → Nat → Prop} {a : Nat} {σ τ : qa_S} (h : qb_F w σ τ) (hw : ∀ b j, (b = a ∧ j < 2) ∨ (a + 1 ≤ b ∧ b ≤ a + 3) ∨ (a + 5 ≤ b ∧ b ≤ a + 11) ∨ (a + 20 ≤ b ∧ b ≤ a + 22) → ¬ w b j) {i : Nat} (hi : i < 69) : qb_gc a τ i = qb_gc a σ i := h _ _ (hw _ _ (by have := qb_pcb (a := a) hi; omega))
theorem qb_mF {w : Nat → Nat → Prop} {σ τ : qa_S} (h : qb_F w σ τ) (hw : ∀ b j, (b = 99 ∧ (j = 0 ∨ j = 5)) ∨ (100 ≤ b ∧ b ≤ 106) → ¬ w b j) {i : Nat} (hi : i < 69) : qb_gm τ i = qb_gm σ i := h _ _ (hw _ _ (qb_pmb hi))
/-! where the single places lie -/
theorem qb_c0 {a : Nat} : qb_pc a 0 = (a, 0) := rfl
theorem qb_c1 {a : Nat} : qb_pc a 1 = (a, 1) := rfl
theorem qb_cK {a c : Nat} (h : c < 7) : qb_pc a (2 + 3 * c) = (a + 1, c) := by unfold qb_pc; rw [if_neg (by omega), if_pos (by omega)]; ext <;> dsimp only <;> omega
theorem qb_cG {a c : Nat} (h : c < 7) : qb_pc a (3 + 3 * c) = (a + 2, c) := by unfold qb_pc; rw [if_neg (by omega), if_pos (by omega)]; ext <;> dsimp only <;> omega
theorem qb_cS {a c : Nat} (h : c < 7) : qb_pc a (4 + 3 * c) = (a + 3, c) := by unfold qb_pc; rw [if_neg (by omega), if_pos (by omega)]; ext <;> dsimp only <;> omega
theorem qb_cM {a c m : Nat} (h : c < 7) (hm : m < 4) : qb_pc a (23 + 4 * c + m) = (a + 5 + c, m) := by unfold qb_pc; rw [if_neg (by omega), if_neg (by omega), if_pos (by omega)]; ext <;> dsimp only <;> omega
theorem qb_cO {a t : Nat} (h : t < 6) : qb_pc a (51 + 3 * t) = (a + 20, t) := by unfold qb_pc; rw [if_neg (by omega), if_neg (by omega), if_neg (by omega)]; ext <;> dsimp only <;> omega
theorem qb_cB {a t : Nat} (h : t < 6) : qb_pc a (52 + 3 * t) = (a + 21, t) := by unfold qb_pc; rw [if_neg (by omega), if_neg (by omega), if_neg (by omega)]; ext <;> dsimp only <;> omega
theorem qb_cY {a t : Nat} (h : t < 6) : qb_pc a (53 + 3 * t) = (a + 22, t) := by unfold qb_pc; rw [if_neg (by omega), if_neg (by omega), if_neg (by omega)]; ext <;> dsimp only <;> omega
theorem qb_m0 : qb_pm 0 = (99, 0) := rfl
theorem qb_m1 : qb_pm 1 = (99, 5) := rfl
theorem qb_mK : ∀ c, c < 7 → qb_pm (2 + 3 * c) = (100, c) := by decide
theorem qb_mG : ∀ c, c < 7 → qb_pm (3 + 3 * c) = (101, c) := by decide
theorem qb_mS : ∀ c, c < 7 → qb_pm (4 + 3 * c) = (103, c) := by decide
theorem qb_mM : ∀ c, c < 7 → ∀ m, m < 4 → qb_pm (23 + 4 * c + m) = (102, 4 * c + m) := by decide
theorem qb_mO : ∀ t, t < 6 → qb_pm (51 + 3 * t) = (104, t) := by decide
theorem qb_mB : ∀ t, t < 6 → qb_pm (52 + 3 * t) = (105, t) := by decide
theorem qb_mY : ∀ t, t < 6 → qb_pm (53 + 3 * t) = (106, t) := by decide
/-! a cask, a taster more -/
def qb_rs : Nat → Int32 → Int32
  | 0, z => z / 10 / 10 / 10
  | 1, z => z / 10 / 10
  | 2, z => z / 10
  | _, z => z
def qb_dg (m : Nat) (z : Int32) : Int32 := qb_rs m z - qb_rs m z / 10 * 10
def qb_addC (V : Nat → Int32) (u : Nat) (k f z : Int32) : Nat → Int32 := qb_set (qb_set (qb_set (qb_set (qb_set (qb_set (qb_set (qb_set V (2 + 3 * u) k) (3 + 3 * u) f) (4 + 3 * u) 0) (23 + 4 * u + 3) (qb_dg 3 z)) (23 + 4 * u + 2) (qb_dg 2 z)) (23 + 4 * u + 1) (qb_dg 1 z)) (23 + 4 * u + 0) (qb_dg 0 z)) 0 (nI (u + 1))
def qb_addT (V : Nat → Int32) (u : Nat) (b l y : Int32) : Nat → Int32 := qb_set (qb_set (qb_set (qb_set V (51 + 3 * u) b) (52 + 3 * u) l) (53 + 3 * u) y) 1 (nI (u + 1))
theorem qb_sx {V W : Nat → Int32} {p : Nat} {x : Int32} (h : ∀ i, i < 69 → V i = W i) : ∀ i, i < 69 → qb_set V p x i = qb_set W p x i := fun i hi => by
  unfold qb_set
  rw [h i hi]
theorem qb_addCx {V W : Nat → Int32} {u : Nat} {k f z : Int32} (h : ∀ i, i < 69 → V i = W i) : ∀ i, i < 69 → qb_addC V u k f z i = qb_addC W u k f z i := qb_sx (qb_sx (qb_sx (qb_sx (qb_sx (qb_sx (qb_sx (qb_sx h)))))))
theorem qb_addTx {V W : Nat → Int32} {u : Nat} {b l y : Int32} (h : ∀ i, i < 69 → V i = W i) : ∀ i, i < 69 → qb_addT V u b l y i = qb_addT W u b l y i := qb_sx (qb_sx (qb_sx (qb_sx h)))
theorem qb_cs {σ : qa_S} {V : Nat → Int32} {a b j p : Nat} {x : Int32} (h : ∀ i, i < 69 → qb_gc a σ i = V i) (hp : p < 69) (e : qb_pc a p = (b, j)) : ∀ i, i < 69 → qb_gc a (qa_u σ b j x) i = qb_set V p x i := fun i hi => by rw [qb_cu hp e hi]; exact qb_sx h i hi
theorem qb_ms {σ : qa_S} {V : Nat → Int32} {b j p : Nat} {x : Int32} (h : ∀ i, i < 69 → qb_gm σ i = V i) (hp : p < 69) (e : qb_pm p = (b, j)) : ∀ i, i < 69 → qb_gm (qa_u σ b j x) i = qb_set V p x i := fun i hi => by rw [qb_mu hp e hi]; exact qb_sx h i hi
