/-! the letters: pure (from 576, 577, 578, 579, 581) -/
def q9a_lb (x : Int) : Nat := if x = 99 then 7 else if x = 109 then 4 else if x = 115 then 3 else if x = 116 then 5 else 0
def q9a_ok (left : Nat) (x : Int) : Bool := if left = 1 then decide (x = 59) else decide (48 ≤ x) && decide (x ≤ 57)
theorem q9a_ok1 {x : Int} : q9a_ok 1 x = true ↔ x = 59 := by
  unfold q9a_ok
  rw [if_pos rfl, decide_eq_true_eq]
theorem q9a_ok2 {left : Nat} {x : Int} (h : left ≠ 1) : q9a_ok left x = true ↔ (48 ≤ x ∧ x ≤ 57) := by
  unfold q9a_ok
  rw [if_neg h, Bool.and_eq_true, decide_eq_true_eq, decide_eq_true_eq]
def q9a_w (L : Nat → Int) : Nat → Nat → Nat → Option Nat
  | 0, a, left => if left = 0 ∧ a ≠ 0 then none else some a
  | d + 1, a, 0 => if q9a_lb (L a) = 0 then some a else q9a_w L d (a + 1) (q9a_lb (L a))
  | d + 1, a, left + 1 => if q9a_ok (left + 1) (L a) = true then q9a_w L d (a + 1) left else some a
theorem q9a_lb8 (x : Int) : q9a_lb x ≤ 7 := by
  unfold q9a_lb
  by_cases h1 : x = 99
  · rw [if_pos h1]; omega
  rw [if_neg h1]
  by_cases h2 : x = 109
  · rw [if_pos h2]; omega
  rw [if_neg h2]
  by_cases h3 : x = 115
  · rw [if_pos h3]; omega
  rw [if_neg h3]
  by_cases h4 : x = 116
  · rw [if_pos h4]; omega
  rw [if_neg h4]; omega
def q9b_f (L : Nat → Int) (n : Nat) : Nat → Nat → Option Nat
  | 0, _ => none
  | d + 1, a => if a < n ∧ 48 ≤ L a ∧ L a ≤ 57 then q9b_f L n d (a + 1) else some a
def q9b_h (X : Nat → Int32) (n a : Nat) : Int32 := if a < n then X a else (-1 : Int32)
def q9b_v (X : Nat → Int32) : Nat → Nat → Int32 → Int32
  | 0, _, v => v
  | d + 1, a, v => q9b_v X d (a + 1) (((10 : Int32) * v + X a) - (48 : Int32))
theorem q9c_p {L : Nat → Int} {n : Nat} (hn : n ≤ 96) : ∀ (d a p : Nat), a ≤ 96 → q9b_f L n d a = some p → p ≤ 96 := by
  intro d
  induction d with
  | zero => intro a p ha h; cases h
  | succ d ih =>
    intro a p ha h
    by_cases c : a < n ∧ 48 ≤ L a ∧ L a ≤ 57
    · rw [show q9b_f L n (d + 1) a = q9b_f L n d (a + 1) from if_pos c] at h
      exact ih (a + 1) p (by omega) h
    · rw [show q9b_f L n (d + 1) a = some a from if_neg c] at h
      cases h
      exact ha
theorem q9c_n {L : Nat → Int} {n : Nat} (hn : n ≤ 96) : ∀ (d a : Nat), a ≤ 96 → q9b_f L n d a = none → a + d ≤ 96 := by
  intro d
  induction d with
  | zero => intro a ha h; exact ha
  | succ d ih =>
    intro a ha h
    by_cases c : a < n ∧ 48 ≤ L a ∧ L a ≤ 57
    · rw [show q9b_f L n (d + 1) a = q9b_f L n d (a + 1) from if_pos c] at h
      have := ih (a + 1) (by omega) h
      omega
    · rw [show q9b_f L n (d + 1) a = some a from if_neg c] at h
      cases h
theorem q9c_add {L : Nat → Int} {n : Nat} : ∀ (c d a : Nat), q9b_f L n (c + d) a = match q9b_f L n c a with | none => q9b_f L n d (a + c) | some p => some p := by
  intro c
  induction c with
  | zero => intro d a; rw [Nat.zero_add]; rfl
  | succ c ih =>
    intro d a
    by_cases h : a < n ∧ 48 ≤ L a ∧ L a ≤ 57
    · rw [show c + 1 + d = c + d + 1 by omega, show q9b_f L n (c + d + 1) a = q9b_f L n (c + d) (a + 1) from if_pos h, show q9b_f L n (c + 1) a = q9b_f L n c (a + 1) from if_pos h, ih d (a + 1), show a + 1 + c = a + (c + 1) by omega]
    · rw [show c + 1 + d = c + d + 1 by omega, show q9b_f L n (c + d + 1) a = some a from if_neg h, show q9b_f L n (c + 1) a = some a from if_neg h]
theorem q9d_w {L : Nat → Int} {n : Nat} : ∀ (c a : Nat), a ≤ n → q9a_w L (n - a) a (c + 1) = match q9b_f L n c a with | some p => some p | none => if a + c < n ∧ L (a + c) = 59 then q9a_w L (n - (a + c + 1)) (a + c + 1) 0 else some (a + c) := by
  intro c
  induction c with
  | zero =>
    intro a ha
    show _ = if a + 0 < n ∧ L (a + 0) = 59 then q9a_w L (n - (a + 0 + 1)) (a + 0 + 1) 0 else some (a + 0)
    rw [Nat.add_zero]
    by_cases h : a = n
    · subst h
      rw [Nat.sub_self, if_neg (by omega)]
      exact if_neg (by omega)
    · obtain ⟨d, hd⟩ : ∃ d, n - a = d + 1 := ⟨n - a - 1, by omega⟩
      rw [hd, show n - (a + 1) = d by omega]
      show (if q9a_ok 1 (L a) = true then q9a_w L d (a + 1) 0 else some a) = _
      by_cases e : L a = 59
      · rw [if_pos (q9a_ok1.mpr e), if_pos ⟨by omega, e⟩]
      · rw [if_neg (fun h => e (q9a_ok1.mp h)), if_neg (fun h => e h.2)]
        rfl
  | succ c ih =>
    intro a ha
    by_cases h : a = n
    · subst h
      rw [Nat.sub_self, show q9b_f L a (c + 1) a = some a from if_neg (by omega)]
      exact if_neg (by omega)
    · obtain ⟨d, hd⟩ : ∃ d, n - a = d + 1 := ⟨n - a - 1, by omega⟩
      rw [hd]
      show (if q9a_ok (c + 1 + 1) (L a) = true then q9a_w L d (a + 1) (c + 1) else some a) = _
      by_cases e : 48 ≤ L a ∧ L a ≤ 57
      · rw [if_pos ((q9a_ok2 (by omega)).mpr e), show q9b_f L n (c + 1) a = q9b_f L n c (a + 1) from if_pos ⟨by omega, e⟩]
        have := ih (a + 1) (by omega)
        rw [show n - (a + 1) = d by omega] at this
        rw [this, show a + 1 + c = a + (c + 1) by omega]
      · rw [if_neg (fun h => e ((q9a_ok2 (by omega)).mp h)), show q9b_f L n (c + 1) a = some a from if_neg (fun h => e h.2)]
def q9d_e (X : Nat → Int32) (n a : Nat) : Option Nat := if q9a_lb (q9b_h X n a).toInt = 0 then some a else match q9b_f (fun i => (X i).toInt) n (q9a_lb (q9b_h X n a).toInt - 1) (a + 1) with | some p => some p | none => if a + q9a_lb (q9b_h X n a).toInt < n ∧ (X (a + q9a_lb (q9b_h X n a).toInt)).toInt = 59 then none else some (a + q9a_lb (q9b_h X n a).toInt)
theorem q9d_st {X : Nat → Int32} {n a : Nat} (ha : a < n) : q9a_w (fun i => (X i).toInt) (n - a) a 0 = match q9d_e X n a with | some p => some p | none => q9a_w (fun i => (X i).toInt) (n - (a + 1 + q9a_lb (X a).toInt)) (a + 1 + q9a_lb (X a).toInt) 0 := by
  have eh : q9b_h X n a = X a := if_pos ha
  unfold q9d_e
  rw [eh]
  obtain ⟨d, hd⟩ : ∃ d, n - a = d + 1 := ⟨n - a - 1, by omega⟩
  by_cases h : q9a_lb (X a).toInt = 0
  · rw [if_pos h, hd]
    exact if_pos h
  · rw [if_neg h, hd]
    show (if q9a_lb (X a).toInt = 0 then some a else q9a_w (fun i => (X i).toInt) d (a + 1) (q9a_lb (X a).toInt)) = _
    rw [if_neg h]
    obtain ⟨c, hc⟩ : ∃ c, q9a_lb (X a).toInt = c + 1 := ⟨q9a_lb (X a).toInt - 1, by omega⟩
    rw [hc, show c + 1 - 1 = c by omega]
    have := q9d_w (L := fun i => (X i).toInt) (n := n) c (a + 1) (by omega)
    rw [show n - (a + 1) = d by omega] at this
    rw [this, show a + 1 + c = a + (c + 1) by omega, show a + 1 + (c + 1) = a + (c + 1) + 1 by omega]
    cases q9b_f (fun i => (X i).toInt) n c (a + 1) with
    | some p => rfl
    | none =>
      dsimp only
      by_cases g : a + (c + 1) < n ∧ (X (a + (c + 1))).toInt = 59
      · rw [if_pos g, if_pos g]
      · rw [if_neg g, if_neg g]
theorem q9d_0 {X : Nat → Int32} : q9a_w (fun i => (X i).toInt) 0 0 0 = some 0 ∧ q9d_e X 0 0 = some 0 := by
  refine ⟨if_neg (by omega), ?_⟩
  have eh : q9b_h X 0 0 = (-1 : Int32) := if_neg (by omega)
  unfold q9d_e
  rw [eh]
  exact if_pos (by decide)
theorem q9f_lb3 {x : Int} (h : q9a_lb x ≠ 0) : 3 ≤ q9a_lb x := by
  unfold q9a_lb at h ⊢
  by_cases h1 : x = 99
  · rw [if_pos h1]; omega
  rw [if_neg h1] at h ⊢
  by_cases h2 : x = 109
  · rw [if_pos h2]; omega
  rw [if_neg h2] at h ⊢
  by_cases h3 : x = 115
  · rw [if_pos h3]; omega
  rw [if_neg h3] at h ⊢
  by_cases h4 : x = 116
  · rw [if_pos h4]; omega
  rw [if_neg h4] at h
  exact absurd rfl h
theorem q9f_e {X : Nat → Int32} {n a : Nat} (ha : a < n) (h : q9d_e X n a = none) : 3 ≤ q9a_lb (X a).toInt ∧ a + q9a_lb (X a).toInt < n := by
  have eh : q9b_h X n a = X a := if_pos ha
  unfold q9d_e at h
  rw [eh] at h
  by_cases c : q9a_lb (X a).toInt = 0
  · rw [if_pos c] at h; cases h
  · rw [if_neg c] at h
    refine ⟨q9f_lb3 c, ?_⟩
    by_cases g : a + q9a_lb (X a).toInt < n ∧ (X (a + q9a_lb (X a).toInt)).toInt = 59
    · exact g.1
    · cases hq : q9b_f (fun i => (X i).toInt) n (q9a_lb (X a).toInt - 1) (a + 1) with
      | some p => rw [hq] at h; cases h
      | none =>
        rw [hq] at h
        dsimp only at h
        rw [if_neg g] at h
        cases h
