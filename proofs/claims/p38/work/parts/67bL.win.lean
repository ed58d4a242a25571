/-! GLASSES THAT FIT: windows and tellings -/
section QL1
variable {n t : Nat} {x s : Nat → Nat} {T : Nat → Nat → Nat} {o b : Nat → Nat} {σ τ : qa_S} {N : Nat}
theorem qs_sm99 {s : Nat → Nat} {T : Nat → Nat} : ∀ {n}, (∀ c, c < n → T c ≤ 99) → qs_sm (fun c => s c * T c) n ≤ qs_sm s n * 99 := by
  intro n
  induction n with
  | zero => intro _; exact Nat.le_refl _
  | succ n ih =>
    intro h
    show qs_sm (fun c => s c * T c) n + s n * T n ≤ (qs_sm s n + s n) * 99
    have h1 := ih (fun c hc => h c (by omega))
    have h2 : s n * T n ≤ s n * 99 := Nat.mul_le_mul_left _ (h n (by omega))
    omega
theorem qs_mx99 {n w m : Nat} {s : Nat → Nat} {T : Nat → Nat → Nat} (hT : ∀ c, c < n → T c m ≤ 99) : qs_mx n s T w m ≤ 99 := by
  unfold qs_mx
  refine Nat.div_le_of_le_mul ?_
  have h1 := qs_sm99 (s := s) (T := fun c => T c m) hT
  have h2 : qs_sm s n * 99 ≤ (w + qs_sm s n) * 99 := Nat.mul_le_mul_right _ (by omega)
  omega
/-- what the g-th glass tastes of -/
def qs_X (n : Nat) (T : Nat → Nat → Nat) (g m : Nat) : Nat := qs_mx n (qb_sh n g) T 0 m
theorem qs_Xl {g m : Nat} (hB : qv_B n t s T o b) (hm : m < 4) : qs_X n T g m ≤ 99 := qs_mx99 (fun c hc => hB.2.2.2.1 c m hc hm)
/-- all glasses are mixed -/
def qs_V (n : Nat) (T : Nat → Nat → Nat) (τ : qa_S) : Prop := τ 73 0 = nI n ∧ τ 73 1 = nI (3 ^ n) ∧ ∀ g, 1 ≤ g → g < 3 ^ n → τ 79 g = nI (qs_gp n g) ∧ ∀ m, m < 4 → τ (75 + m) g = nI (qs_X n T g m)
theorem qs_V1 (hB : qv_B n t s T o b) (hC : qv_C n t s T o b τ) (hQ : qb_iQ τ) (h0 : τ 3 18 = 0) : qs_V n T τ := by
  have n7 := hB.1
  obtain ⟨g1, g2, g3⟩ := hQ.2 h0 n n7 hC.1
  refine ⟨g1, g2, fun g ga gb => ⟨(g3 g ga gb).1.trans qk_prN, fun m hm => ?_⟩⟩
  have gp1 := qk_gp1 ga gb
  have gpl := qk_gpl (g := g) n7
  have l1 : qs_sm (fun c => qb_sh n g c * T c m) n ≤ n * (2 * 99) := qs_sml (fun k hk => Nat.mul_le_mul qk_sh2 (hB.2.2.2.1 k m hk hm))
  rw [(g3 g ga gb).2 m hm, qb_glx (T' := fun c m => nI (T c m)) (fun c hc => hC.2.2.2.1 c m hc hm)]
  unfold qb_gl qb_ts
  rw [qb_sumx (g := fun c => nI (qb_sh n g c * T c m)) (fun c _ => qw_mul), qk_sI, qk_prN, qw_div (by omega) (by omega) (by omega)]
  unfold qs_X qs_mx
  rw [Nat.zero_add]
  rfl
/-! windows -/
theorem qs_tlw {b x y : Nat} : (qs_tl b x ≤ y ∧ y ≤ qs_tl b x + b) ↔ qs_tl b x = qs_tl b y := by
  unfold qs_tl
  have d1 := Nat.div_add_mod y (b + 1)
  have d2 := Nat.mod_lt y (show 0 < b + 1 by omega)
  rw [Nat.mul_comm] at d1
  constructor
  · intro h
    have e : y / (b + 1) = x / (b + 1) := Nat.div_eq_of_lt_le h.1 (by rw [Nat.succ_mul]; omega)
    rw [e]
  · intro h
    rw [h]
    omega
def qs_lo (t w : Nat) (o b x : Nat → Nat) (m : Nat) : Nat := qw_f (fun i a => if w.testBit i && (o i).testBit m then (if a < qs_tl (b i) (x m) then qs_tl (b i) (x m) else a) else a) t 0
def qs_hi (t w : Nat) (o b x : Nat → Nat) (m : Nat) : Nat := qw_f (fun i a => if w.testBit i && (o i).testBit m then (if qs_tl (b i) (x m) + b i < a then qs_tl (b i) (x m) + b i else a) else a) t 99
theorem qs_win {w m y : Nat} (hy : y ≤ 99) : ∀ t, (qs_lo t w o b x m ≤ y ∧ y ≤ qs_hi t w o b x m) ↔ ∀ i, i < t → w.testBit i = true → (o i).testBit m = true → qs_tl (b i) (x m) = qs_tl (b i) y := by
  intro t
  induction t with
  | zero => exact ⟨fun _ i hi => absurd hi (Nat.not_lt_zero i), fun _ => ⟨Nat.zero_le y, hy⟩⟩
  | succ t ih =>
    have e1 : qs_lo (t + 1) w o b x m = if w.testBit t && (o t).testBit m then (if qs_lo t w o b x m < qs_tl (b t) (x m) then qs_tl (b t) (x m) else qs_lo t w o b x m) else qs_lo t w o b x m := rfl
    have e2 : qs_hi (t + 1) w o b x m = if w.testBit t && (o t).testBit m then (if qs_tl (b t) (x m) + b t < qs_hi t w o b x m then qs_tl (b t) (x m) + b t else qs_hi t w o b x m) else qs_hi t w o b x m := rfl
    have sp : (∀ i, i < t + 1 → w.testBit i = true → (o i).testBit m = true → qs_tl (b i) (x m) = qs_tl (b i) y) ↔ ((∀ i, i < t → w.testBit i = true → (o i).testBit m = true → qs_tl (b i) (x m) = qs_tl (b i) y) ∧ (w.testBit t = true → (o t).testBit m = true → qs_tl (b t) (x m) = qs_tl (b t) y)) :=
      ⟨fun h => ⟨fun i hi => h i (by omega), h t (by omega)⟩, fun h i hi => by
        by_cases e : i = t
        · subst e; exact h.2
        · exact h.1 i (by omega)⟩
    rw [sp, ← ih, e1, e2]
    by_cases c1 : w.testBit t = true
    · by_cases c2 : (o t).testBit m = true
      · rw [c1, c2, Bool.and_self, if_pos rfl, if_pos rfl]
        have := qs_tlw (b := b t) (x := x m) (y := y)
        constructor
        · intro h
          obtain ⟨h1, h2⟩ := h
          refine ⟨⟨?_, ?_⟩, fun _ _ => this.mp ⟨?_, ?_⟩⟩ <;> (split at h1 <;> split at h2 <;> omega)
        · intro h
          have h3 := this.mpr (h.2 rfl rfl)
          refine ⟨?_, ?_⟩ <;> (split <;> omega)
      · rw [Bool.eq_false_iff.mpr c2, Bool.and_false, if_neg Bool.false_ne_true, if_neg Bool.false_ne_true]
        exact ⟨fun h => ⟨h, fun _ h2 => by cases h2⟩, fun h => h.1⟩
    · rw [Bool.eq_false_iff.mpr c1, Bool.false_and, if_neg Bool.false_ne_true, if_neg Bool.false_ne_true]
      exact ⟨fun h => ⟨h, fun h2 => by cases h2⟩, fun h => h.1⟩
theorem qs_hil {w m : Nat} : ∀ t, qs_hi t w o b x m ≤ 99 := by
  intro t
  induction t with
  | zero => exact Nat.le_refl _
  | succ t ih =>
    have e2 : qs_hi (t + 1) w o b x m = if w.testBit t && (o t).testBit m then (if qs_tl (b t) (x m) + b t < qs_hi t w o b x m then qs_tl (b t) (x m) + b t else qs_hi t w o b x m) else qs_hi t w o b x m := rfl
    rw [e2]
    split
    · split <;> omega
    · exact ih
theorem qs_lol {w m : Nat} : ∀ t, qs_lo t w o b x m ≤ x m := by
  intro t
  induction t with
  | zero => exact Nat.zero_le _
  | succ t ih =>
    have e1 : qs_lo (t + 1) w o b x m = if w.testBit t && (o t).testBit m then (if qs_lo t w o b x m < qs_tl (b t) (x m) then qs_tl (b t) (x m) else qs_lo t w o b x m) else qs_lo t w o b x m := rfl
    have := qs_tlle (b := b t) (x := x m)
    rw [e1]
    split
    · split <;> omega
    · exact ih
/-- the class opens the window -/
theorem qs_67 (hN : 10 ≤ N) : (∀ m, m < 4 → ma_67_80 N σ 81 m = 0 ∧ ma_67_80 N σ 82 m = 99) ∧ qb_F (fun a _ => a = 81 ∨ a = 82) σ (ma_67_80 N σ) := by
  have f81 : ∀ (v : Int32) (σ : qa_S), (∀ m, m < 4 → ma_68_81 N v σ 81 m = v) ∧ qb_F (fun a _ => a = 81) σ (ma_68_81 N v σ) := by
    intro v σ
    unfold ma_68_81
    dsimp only [qa_in]
    refine qb_l0 (fun (k : Nat) (q : Int32 × qa_S) => q.1 = nI k ∧ (∀ m, m < k → q.2 81 m = v) ∧ qb_F (fun a _ => a = 81) σ q.2) (fun (q : Int32 × qa_S) => (∀ m, m < 4 → q.2 81 m = v) ∧ qb_F (fun a _ => a = 81) σ q.2) 4 (by omega) ⟨rfl, fun m hm => by omega, qb_Fr⟩ ?_ ?_
    · rintro k ⟨q1, q2⟩ hk ⟨g1, g2, g3⟩
      dsimp only at g1 g2 g3
      subst g1
      unfold mc_68_81_p5
      dsimp only [qa_in]
      rw [if_pos (show nI k < (4 : Int32) from qb_ltT (b := 4) hk (by omega)), qb_n (k := k) (by omega), qb_s]
      refine ⟨_, rfl, rfl, fun m hm => ?_, fun a i ha => ?_⟩
      · dsimp only
        rw [qb_uJ]
        by_cases e : m = k
        · rw [if_pos e]
        · rw [if_neg e]; exact g2 m (by omega)
      · dsimp only
        rw [qb_uA ha]; exact g3 a i ha
    · rintro ⟨q1, q2⟩ ⟨g1, g2, g3⟩
      dsimp only at g1 g2 g3
      subst g1
      unfold mc_68_81_p5
      dsimp only
      rw [if_neg (show ¬ nI 4 < (4 : Int32) by decide)]
      exact ⟨_, rfl, g2, g3⟩
  have f82 : ∀ (v : Int32) (σ : qa_S), (∀ m, m < 4 → ma_68_82 N v σ 82 m = v) ∧ qb_F (fun a _ => a = 82) σ (ma_68_82 N v σ) := by
    intro v σ
    unfold ma_68_82
    dsimp only [qa_in]
    refine qb_l0 (fun (k : Nat) (q : Int32 × qa_S) => q.1 = nI k ∧ (∀ m, m < k → q.2 82 m = v) ∧ qb_F (fun a _ => a = 82) σ q.2) (fun (q : Int32 × qa_S) => (∀ m, m < 4 → q.2 82 m = v) ∧ qb_F (fun a _ => a = 82) σ q.2) 4 (by omega) ⟨rfl, fun m hm => by omega, qb_Fr⟩ ?_ ?_
    · rintro k ⟨q1, q2⟩ hk ⟨g1, g2, g3⟩
      dsimp only at g1 g2 g3
      subst g1
      unfold mc_68_82_p5
      dsimp only [qa_in]
      rw [if_pos (show nI k < (4 : Int32) from qb_ltT (b := 4) hk (by omega)), qb_n (k := k) (by omega), qb_s]
      refine ⟨_, rfl, rfl, fun m hm => ?_, fun a i ha => ?_⟩
      · dsimp only
        rw [qb_uJ]
        by_cases e : m = k
        · rw [if_pos e]
        · rw [if_neg e]; exact g2 m (by omega)
      · dsimp only
        rw [qb_uA ha]; exact g3 a i ha
    · rintro ⟨q1, q2⟩ ⟨g1, g2, g3⟩
      dsimp only at g1 g2 g3
      subst g1
      unfold mc_68_82_p5
      dsimp only
      rw [if_neg (show ¬ nI 4 < (4 : Int32) by decide)]
      exact ⟨_, rfl, g2, g3⟩
  unfold ma_67_80
  dsimp only [qa_in]
  obtain ⟨a1, a2⟩ := f81 0 σ
  obtain ⟨b1, b2⟩ := f82 99 (ma_68_81 N 0 σ)
  refine ⟨fun m hm => ⟨(b2 81 m (by omega)).trans (a1 m hm), b1 m hm⟩, qb_Ft a2 b2 (fun a j h => by omega) (fun a j h => by omega)⟩
/-- the window as far as some marks -/
def qs_W (u : Nat → Nat) (v : Nat → Nat) (τ : qa_S) : Prop := ∀ m, m < 4 → τ 81 m = nI (u m) ∧ τ 82 m = nI (v m)
/-- the class narrows the window at a mark -/
theorem qs_69 {c m l h y : Nat} (hm : m < 4) (hy : y < 1000000) (hc : c ≤ 9) (h1 : σ 81 m = nI l) (h2 : σ 82 m = nI h) (hl : l < 1000000) (hh : h < 1000000) : ma_69_80 (nI m) (nI y) (nI c) σ 81 m = nI (if l < qs_tl c y then qs_tl c y else l) ∧ ma_69_80 (nI m) (nI y) (nI c) σ 82 m = nI (if qs_tl c y + c < h then qs_tl c y + c else h) ∧ qb_F (fun a j => (a = 81 ∨ a = 82) ∧ j = m) σ (ma_69_80 (nI m) (nI y) (nI c) σ) := by
  have tl := qs_tlle (b := c) (x := y)
  unfold ma_69_80
  dsimp only [qa_in]
  rw [qb_n (k := m) (by omega), qs_50 hy hc, h1, qw_add, qb_uA (show (82 : Nat) ≠ 81 by omega), h2]
  unfold ma_70 ma_71
  refine ⟨?_, ?_, fun a j ha => ?_⟩
  · rw [qb_uA (show (81 : Nat) ≠ 82 by omega), qb_uE]
    by_cases e : l < qs_tl c y
    · rw [if_pos e, if_pos (qb_ltT e (by omega))]
    · rw [if_neg e, if_neg (qb_ltF (Nat.le_of_not_lt e) (by omega))]
  · rw [qb_uE]
    by_cases e : qs_tl c y + c < h
    · rw [if_pos e, if_pos (qb_ltT e (by omega))]
    · rw [if_neg e, if_neg (qb_ltF (Nat.le_of_not_lt e) (by omega))]
  · rw [qb_uN (by omega), qb_uN (by omega)]
theorem qs_66 {w a2 : Nat} (hN : 10 ≤ N) (hB : qv_B n t s T o b) (hC : qv_C n t s T o b σ) (ha : a2 = 94 ∨ a2 = 95) (hw : w < 128) (hx : ∀ m, m < 4 → σ a2 m = nI (x m) ∧ x m < 1000000) : qs_W (qs_lo t w o b x) (qs_hi t w o b x) (ma_66_3 N (nI w) a2 σ) ∧ qb_F (fun a _ => a = 81 ∨ a = 82) σ (ma_66_3 N (nI w) a2 σ) := by
  have n7 := hB.1
  have t6 := hB.2.1
  unfold ma_66_3
  dsimp only [qa_in]
  obtain ⟨o1, o2⟩ := qs_67 (σ := σ) hN
  obtain ⟨μ, eμ⟩ : ∃ μ, μ = ma_67_80 N σ := ⟨_, rfl⟩
  rw [← eμ] at o1 o2 ⊢
  refine qb_l0 (fun (k : Nat) (q : Int32 × qa_S) => q.1 = nI k ∧ qs_W (qs_lo k w o b x) (qs_hi k w o b x) q.2 ∧ qb_F (fun a _ => a = 81 ∨ a = 82) σ q.2) (fun (q : Int32 × qa_S) => qs_W (qs_lo t w o b x) (qs_hi t w o b x) q.2 ∧ qb_F (fun a _ => a = 81 ∨ a = 82) σ q.2) t (by omega) ⟨rfl, fun m hm => o1 m hm, o2⟩ ?_ ?_
  · rintro i ⟨q1, q2⟩ hi ⟨g1, g2, g3⟩
    dsimp only at g1 g2 g3
    subst g1
    have C2 := qv_CF g3 (fun a j h c => by omega) hC n7
    obtain ⟨o15, b9⟩ := hB.2.2.2.2 i (by omega)
    have A : (fun (ν : qa_S) => qs_W (qs_lo (i + 1) w o b x) (qs_hi (i + 1) w o b x) ν ∧ qb_F (fun a _ => a = 81 ∨ a = 82) σ ν) (qa_wh (fun s => s) (mc_66_3_p23 N (nI w) a2 (nI i)) N ((0 : Int32), q2)).2 := by
      refine qb_l0 (fun (k : Nat) (q : Int32 × qa_S) => q.1 = nI k ∧ qs_W (fun m => if m < k then qs_lo (i + 1) w o b x m else qs_lo i w o b x m) (fun m => if m < k then qs_hi (i + 1) w o b x m else qs_hi i w o b x m) q.2 ∧ qb_F (fun a _ => a = 81 ∨ a = 82) σ q.2) (fun (q : Int32 × qa_S) => qs_W (qs_lo (i + 1) w o b x) (qs_hi (i + 1) w o b x) q.2 ∧ qb_F (fun a _ => a = 81 ∨ a = 82) σ q.2) 4 (by omega) ⟨rfl, fun m hm => by dsimp only; rw [if_neg (Nat.not_lt_zero m), if_neg (Nat.not_lt_zero m)]; exact g2 m hm, g3⟩ ?_ ?_
      · rintro k ⟨r1, r2⟩ hk ⟨f1, f2, f3⟩
        dsimp only at f1 f2 f3
        subst f1
        have C3 := qv_CF f3 (fun a j h c => by omega) hC n7
        obtain ⟨w1, w2⟩ := f2 k hk
        dsimp only at w1 w2
        rw [if_neg (Nat.lt_irrefl k)] at w1 w2
        have ll := qs_lol (x := x) (o := o) (b := b) (w := w) (m := k) i
        have hl := qs_hil (x := x) (o := o) (b := b) (w := w) (m := k) i
        have xk := (hx k hk).2
        obtain ⟨p1, p2, p3⟩ := qs_69 (σ := r2) (y := x k) (c := b i) hk xk b9 w1 w2 (by omega) (by omega)
        unfold mc_66_3_p23
        dsimp only [qa_in]
        rw [if_pos (show nI k < (4 : Int32) from qb_ltT (b := 4) hk (by omega)), qb_n (k := k) (by omega), qb_n (k := i) (by omega), f3 a2 k (by omega), (hx k hk).1, (C3.2.2.2.2 i (by omega)).2, qb_s]
        have d1 : (ma_48 (r2 24 i) (nI k) = 0) ↔ (o i).testBit k = false := by
          rw [(C3.2.2.2.2 i (by omega)).1, qs_48 (o i) (by omega) k (by omega)]
          exact qs_bz
        have d2 : (ma_48 (nI w) (nI i) = 0) ↔ w.testBit i = false := by
          rw [qs_48 w hw i (by omega)]
          exact qs_bz
        have l1 : qs_lo (i + 1) w o b x k = if w.testBit i && (o i).testBit k then (if qs_lo i w o b x k < qs_tl (b i) (x k) then qs_tl (b i) (x k) else qs_lo i w o b x k) else qs_lo i w o b x k := rfl
        have h1 : qs_hi (i + 1) w o b x k = if w.testBit i && (o i).testBit k then (if qs_tl (b i) (x k) + b i < qs_hi i w o b x k then qs_tl (b i) (x k) + b i else qs_hi i w o b x k) else qs_hi i w o b x k := rfl
        have keep : (w.testBit i && (o i).testBit k) = false → qs_W (fun m => if m < k + 1 then qs_lo (i + 1) w o b x m else qs_lo i w o b x m) (fun m => if m < k + 1 then qs_hi (i + 1) w o b x m else qs_hi i w o b x m) r2 := fun hf m hm => by
          dsimp only
          rw [hf, if_neg Bool.false_ne_true] at l1 h1
          by_cases e : m = k
          · subst e
            rw [if_pos (Nat.lt_succ_self m), if_pos (Nat.lt_succ_self m), l1, h1]
            exact ⟨w1, w2⟩
          · have := f2 m hm
            dsimp only at this
            by_cases l : m < k
            · rw [if_pos l, if_pos l] at this
              rw [if_pos (show m < k + 1 by omega), if_pos (show m < k + 1 by omega)]; exact this
            · rw [if_neg l, if_neg l] at this
              rw [if_neg (show ¬ m < k + 1 by omega), if_neg (show ¬ m < k + 1 by omega)]; exact this
        refine ⟨_, rfl, rfl, ?_⟩
        dsimp only
        by_cases c1 : w.testBit i = true
        · by_cases c2 : (o i).testBit k = true
          · rw [if_neg (fun h => by rw [d2.mp h] at c1; cases c1), if_neg (fun h => by rw [d1.mp h] at c2; cases c2)]
            rw [c1, c2, Bool.and_self, if_pos rfl] at l1 h1
            refine ⟨fun m hm => ?_, fun a j hj => (p3 a j (by omega)).trans (f3 a j hj)⟩
            dsimp only
            by_cases e : m = k
            · subst e
              rw [if_pos (Nat.lt_succ_self m), if_pos (Nat.lt_succ_self m), l1, h1]
              exact ⟨p1, p2⟩
            · have := f2 m hm
              dsimp only at this
              rw [p3 81 m (by omega), p3 82 m (by omega)]
              by_cases l : m < k
              · rw [if_pos l, if_pos l] at this
                rw [if_pos (show m < k + 1 by omega), if_pos (show m < k + 1 by omega)]; exact this
              · rw [if_neg l, if_neg l] at this
                rw [if_neg (show ¬ m < k + 1 by omega), if_neg (show ¬ m < k + 1 by omega)]; exact this
          · rw [if_neg (fun h => by rw [d2.mp h] at c1; cases c1), if_pos (d1.mpr (Bool.eq_false_iff.mpr c2))]
            exact ⟨keep (by rw [Bool.eq_false_iff.mpr c2, Bool.and_false]), f3⟩
        · rw [if_pos (d2.mpr (Bool.eq_false_iff.mpr c1))]
          exact ⟨keep (by rw [Bool.eq_false_iff.mpr c1, Bool.false_and]), f3⟩
      · rintro ⟨r1, r2⟩ ⟨f1, f2, f3⟩
        dsimp only at f1 f2 f3
        subst f1
        unfold mc_66_3_p23
        dsimp only
        rw [if_neg (show ¬ nI 4 < (4 : Int32) by decide)]
        exact ⟨_, rfl, fun m hm => by have := f2 m hm; dsimp only at this; rw [if_pos hm, if_pos hm] at this; exact this, f3⟩
    unfold mc_66_3_p9
    dsimp only [qa_in]
    rw [if_pos (qw_ltT C2.2.1 hi (by omega)), qb_s]
    exact ⟨_, rfl, rfl, A⟩
  · rintro ⟨q1, q2⟩ ⟨g1, g2, g3⟩
    dsimp only at g1 g2 g3
    subst g1
    have C2 := qv_CF g3 (fun a j h c => by omega) hC n7
    unfold mc_66_3_p9
    dsimp only
    rw [if_neg (qw_ltF C2.2.1 (by omega))]
    exact ⟨_, rfl, g2, g3⟩
/-- all of some tasters tell the g-th glass as x -/
def qs_fb (n t : Nat) (T : Nat → Nat → Nat) (o b x : Nat → Nat) (w g : Nat) : Bool := !qs_any (fun i => w.testBit i && qs_ap (o i) (b i) x (qs_X n T g)) t
theorem qs_anyF {f : Nat → Bool} : ∀ t, qs_any f t = false ↔ ∀ i, i < t → f i = false := by
  intro t
  induction t with
  | zero => exact ⟨fun _ i hi => absurd hi (Nat.not_lt_zero i), fun _ => rfl⟩
  | succ t ih =>
    show (qs_any f t || f t) = false ↔ _
    rw [Bool.or_eq_false_iff, ih]
    exact ⟨fun h i hi => by
      by_cases e : i = t
      · subst e; exact h.2
      · exact h.1 i (by omega), fun h => ⟨fun i hi => h i (by omega), h t (by omega)⟩⟩
theorem qs_apF {o b : Nat} {x y : Nat → Nat} : qs_ap o b x y = false ↔ ∀ m, m < 4 → o.testBit m = true → qs_tl b (x m) = qs_tl b (y m) := by
  have u : ∀ m, qs_u o b x y m = false ↔ (o.testBit m = true → qs_tl b (x m) = qs_tl b (y m)) := fun m => by
    unfold qs_u
    cases o.testBit m
    · exact ⟨fun _ h => (by cases h), fun _ => rfl⟩
    · rw [Bool.true_and, Bool.not_eq_false', beq_iff_eq]
      exact ⟨fun h _ => h, fun h => h rfl⟩
  unfold qs_ap
  rw [Bool.or_eq_false_iff, Bool.or_eq_false_iff, Bool.or_eq_false_iff, u, u, u, u]
  constructor
  · intro h m hm
    rcases (show m = 0 ∨ m = 1 ∨ m = 2 ∨ m = 3 by omega) with e | e | e | e <;> subst e
    · exact h.1.1.1
    · exact h.1.1.2
    · exact h.1.2
    · exact h.2
  · intro h
    exact ⟨⟨⟨h 0 (by omega), h 1 (by omega)⟩, h 2 (by omega)⟩, h 3 (by omega)⟩
theorem qs_fbT {w g : Nat} (hB : qv_B n t s T o b) : qs_fb n t T o b x w g = true ↔ ∀ m, m < 4 → qs_lo t w o b x m ≤ qs_X n T g m ∧ qs_X n T g m ≤ qs_hi t w o b x m := by
  unfold qs_fb
  rw [Bool.not_eq_true', qs_anyF]
  constructor
  · intro h m hm
    refine (qs_win (qs_Xl hB hm) t).mpr (fun i hi w1 o1 => ?_)
    have := h i hi
    rw [w1, Bool.true_and, qs_apF] at this
    exact this m hm o1
  · intro h i hi
    cases w1 : w.testBit i
    · rfl
    · rw [Bool.true_and, qs_apF]
      exact fun m hm o1 => (qs_win (qs_Xl hB hm) t).mp (h m hm) i hi w1 o1
/-- the class: whether a glass is in the window -/
theorem qs_76 {w g : Nat} (hN : 10 ≤ N) (hB : qv_B n t s T o b) (hV : qs_V n T τ) (hW : qs_W (qs_lo t w o b x) (qs_hi t w o b x) τ) (hx : ∀ m, m < 4 → x m < 1000000) (ga : 1 ≤ g) (gb : g < 3 ^ n) : ma_76_73_80 N (nI g) τ = if qs_fb n t T o b x w g then 1 else 0 := by
  have n7 := hB.1
  have l3 := qk_3n n7
  unfold ma_76_73_80
  dsimp only [qa_in]
  have A := qw_lf (e := fun s => Sum.inr s) (step := mc_76_73_80_p2 N (nI g) τ) (N := N) (fun m => ¬ (qs_lo t w o b x m ≤ qs_X n T g m ∧ qs_X n T g m ≤ qs_hi t w o b x m)) (fun m => nI m) (fun _ => (0 : Int32)) 1 (fun z => qa_cs z (fun b3 => b3) (fun b3 => (1 : Int32))) 4 (by omega) (fun m hm => by
    have ll := qs_lol (x := x) (o := o) (b := b) (w := w) (m := m) t
    have hl := qs_hil (x := x) (o := o) (b := b) (w := w) (m := m) t
    have xl := qs_Xl (g := g) hB hm
    have xm := hx m hm
    unfold mc_76_73_80_p2
    rw [if_pos (show nI m < (4 : Int32) from qb_ltT (b := 4) hm (by omega)), qb_n (k := m) (by omega), qb_n (k := g) (by omega), (hV.2.2 g ga gb).2 m hm, (hW m hm).1, (hW m hm).2, qb_s]
    by_cases c1 : qs_X n T g m < qs_lo t w o b x m
    · rw [if_pos (qb_ltT c1 (by omega))]
      exact Or.inr ⟨by omega, _, rfl, rfl⟩
    · rw [if_neg (qb_ltF (Nat.le_of_not_lt c1) (by omega))]
      by_cases c2 : qs_hi t w o b x m < qs_X n T g m
      · rw [if_pos (qb_ltT c2 (by omega))]
        exact Or.inr ⟨by omega, _, rfl, rfl⟩
      · rw [if_neg (qb_ltF (Nat.le_of_not_lt c2) (by omega))]
        exact Or.inl ⟨by omega, rfl⟩) ⟨_, by unfold mc_76_73_80_p2; rw [if_neg (show ¬ nI 4 < (4 : Int32) by decide)], rfl⟩
  have fT := qs_fbT (w := w) (g := g) (x := x) hB
  rcases A with ⟨m, m1, m2, -, m4⟩ | ⟨m1, m2⟩
  · refine Eq.trans m4 ?_
    rw [if_neg (fun h => m2 (fT.mp h m m1))]
  · refine Eq.trans m2 ?_
    rw [if_pos (fT.mpr (fun m hm => Decidable.of_not_not (m1 m hm)))]
/-- the class counts those in the window -/
def qs_cn (n : Nat) (p : Nat → Bool) : Nat := qs_ct (fun k => p (1 + k)) (3 ^ n - 1)
theorem qs_75 {w : Nat} (hN : 5000 ≤ N) (hB : qv_B n t s T o b) (hV : qs_V n T τ) (hW : qs_W (qs_lo t w o b x) (qs_hi t w o b x) τ) (hx : ∀ m, m < 4 → x m < 1000000) : ma_75_73_80 N τ = nI (qs_cn n (qs_fb n t T o b x w)) := by
  have n7 := hB.1
  have l3 := qk_3n n7
  have p0 : 0 < 3 ^ n := Nat.pow_pos (by omega)
  unfold ma_75_73_80
  dsimp only [qa_in]
  refine congrArg Prod.snd (qw_lp (e := fun s => s) (fun k (a : Nat) => (nI (1 + k), nI a)) (fun a => (nI (1 + (3 ^ n - 1)), nI a)) (fun k a => if qs_fb n t T o b x w (1 + k) then a + 1 else a) (3 ^ n - 1) 0 (by omega) (fun k a hk => ?_) (fun a => ?_))
  · unfold mc_75_73_80_p4
    dsimp only [qa_in]
    rw [if_pos (qw_ltT hV.2.1 (show 1 + k < 3 ^ n by omega) (by omega)), qs_76 (by omega) hB hV hW hx (by omega) (show 1 + k < 3 ^ n by omega), qb_s]
    cases qs_fb n t T o b x w (1 + k)
    · rfl
    · rw [if_neg (by decide), qb_s]; rfl
  · unfold mc_75_73_80_p4
    dsimp only
    rw [show 1 + (3 ^ n - 1) = 3 ^ n by omega, if_neg (qw_ltF hV.2.1 (by omega))]
/-! the reference -/
theorem qs_195 (hN : 10 ≤ N) (hn : n ≤ 7) (h : τ 99 0 = nI n) : ma_195_99 N τ = nI (3 ^ n) := by
  unfold ma_195_99
  dsimp only [qa_in]
  have e : ∀ k, qw_f (fun _ a => a * 3) k 1 = 3 ^ k := by
    intro k
    induction k with
    | zero => rfl
    | succ k ih =>
      show qw_f (fun _ a => a * 3) k 1 * 3 = 3 ^ (k + 1)
      rw [ih, Nat.pow_succ]
  rw [← e n]
  refine congrArg Prod.snd (qw_lp (e := fun s => s) (fun k (a : Nat) => (nI k, nI a)) (fun a => (nI n, nI a)) (fun _ a => a * 3) n 1 (by omega) (fun k a hk => ?_) (fun a => ?_))
  · unfold mc_195_99_p4
    dsimp only
    rw [if_pos (qw_ltT h hk (by omega)), qb_s, show nI a * (3 : Int32) = nI (a * 3) from qw_mul (b := 3)]
  · unfold mc_195_99_p4
    dsimp only
    rw [if_neg (qw_ltF h (by omega))]
theorem qs_196 {g : Nat} (hN : 20 ≤ N) (hn : n ≤ 7) (h : τ 99 0 = nI n) (hg : g < 2187) : (∀ c, c < n → ma_196_99 N (nI g) τ 110 c = nI (qb_sh n g c)) ∧ qb_F (fun a _ => a = 110) τ (ma_196_99 N (nI g) τ) := by
  unfold ma_196_99
  dsimp only [qa_in]
  rw [h]
  refine qb_l0 (fun (k : Nat) (q : Int32 × Int32 × qa_S) => q.1 = nI n - nI (k + 1) ∧ q.2.1 = nI (g / 3 ^ k) ∧ (∀ c, c < n → n ≤ c + k → q.2.2 110 c = nI (qb_sh n g c)) ∧ qb_F (fun a _ => a = 110) τ q.2.2) (fun (q : Int32 × Int32 × qa_S) => (∀ c, c < n → q.2.2 110 c = nI (qb_sh n g c)) ∧ qb_F (fun a _ => a = 110) τ q.2.2) n (by omega) ⟨rfl, by rw [Nat.pow_zero, Nat.div_one], fun c hc h2 => by omega, qb_Fr⟩ ?_ ?_
  · rintro k ⟨q1, q2, q3⟩ hk ⟨g1, g2, g3, g4⟩
    dsimp only at g1 g2 g3 g4
    subst g1 g2
    obtain ⟨d1, d2, d3⟩ := (qk_dn n (by omega) k (by omega)).1 hk
    have d4 := (qk_dn n (by omega) k (by omega)).2.1
    have dl : g / 3 ^ k ≤ g := Nat.div_le_self _ _
    unfold mc_196_99_p9
    dsimp only [qa_in]
    rw [if_neg d3, d4, d1, qb_n (by omega), show (3 : Int32) = nI 3 from rfl, qw_div (by omega) (by omega) (by omega), qw_mul, qw_sub (Nat.div_mul_le_self _ _)]
    refine ⟨_, rfl, rfl, ?_, fun c hc h2 => ?_, fun a j ha => ?_⟩
    · dsimp only
      rw [Nat.div_div_eq_div_mul, Nat.pow_succ]
    · dsimp only
      rw [qb_uJ]
      by_cases e : c = n - 1 - k
      · rw [if_pos e]
        refine congrArg nI ?_
        unfold qb_sh
        rw [show n - 1 - c = k by omega]
        omega
      · rw [if_neg e]; exact g3 c hc (by omega)
    · dsimp only
      rw [qb_uA ha]; exact g4 a j ha
  · rintro ⟨q1, q2, q3⟩ ⟨g1, g2, g3, g4⟩
    dsimp only at g1 g2 g3 g4
    subst g1 g2
    unfold mc_196_99_p9
    dsimp only
    rw [if_pos (qk_dn n (by omega) 0 (by omega)).2.2]
    exact ⟨_, rfl, fun c hc => g3 c hc (by omega), g4⟩
/-- all codes told -/
def qs_A (n t : Nat) (T : Nat → Nat → Nat) (o b x : Nat → Nat) (τ : qa_S) : Prop := ∀ g, 1 ≤ g → g < 3 ^ n → τ 112 g = nI (qs_en (fun i => !qs_ap (o i) (b i) x (qs_X n T g)) t)
theorem qs_194 (hN : 5000 ≤ N) (hB : qv_B n t s T o b) (hP : qv_P n t s T o b τ) : qv_R n t s T o b (ma_194_99 N τ) ∧ qs_A n t T o b (qs_gl n s T) (ma_194_99 N τ) ∧ qb_F (fun a _ => 108 ≤ a ∧ a ≤ 112) τ (ma_194_99 N τ) := by
  have n7 := hB.1
  have l3 := qk_3n n7
  have p0 : 0 < 3 ^ n := Nat.pow_pos (by omega)
  unfold ma_194_99
  dsimp only [qa_in]
  obtain ⟨R, -, g9, F⟩ := qs_180 (N := N) (by omega) hB hP
  obtain ⟨ρ, eρ⟩ : ∃ ρ, ρ = ma_180_99 N τ := ⟨_, rfl⟩
  rw [← eρ] at R g9 F ⊢
  rw [qs_195 (by omega) n7 R.1]
  refine qb_l0 (fun (k : Nat) (q : Int32 × qa_S) => q.1 = nI (1 + k) ∧ (∀ g, 1 ≤ g → g < 1 + k → q.2 112 g = nI (qs_en (fun i => !qs_ap (o i) (b i) (qs_gl n s T) (qs_X n T g)) t)) ∧ qb_F (fun a _ => 110 ≤ a ∧ a ≤ 112) ρ q.2) (fun (q : Int32 × qa_S) => qv_R n t s T o b q.2 ∧ qs_A n t T o b (qs_gl n s T) q.2 ∧ qb_F (fun a _ => 108 ≤ a ∧ a ≤ 112) τ q.2) (3 ^ n - 1) (by omega) ⟨rfl, fun g ga gb => by omega, qb_Fr⟩ ?_ ?_
  · rintro k ⟨q1, q2⟩ hk ⟨g1, g2, g3⟩
    dsimp only at g1 g2 g3
    subst g1
    unfold mc_194_99_p11
    dsimp only [qa_in]
    rw [if_pos (show nI (1 + k) < nI (3 ^ n) from qb_ltT (by omega) (by omega)), qb_n (k := 1 + k) (by omega), qb_s]
    have R0 := qv_RF g3 (fun a j h c => by omega) R
    obtain ⟨b1, b2⟩ := qs_196 (N := N) (g := 1 + k) (by omega) n7 R0.1 (by omega)
    have R1 := qv_RF b2 (fun a j h c => by omega) R0
    obtain ⟨μ, eμ⟩ : ∃ μ, μ = ma_196_99 N (nI (1 + k)) q2 := ⟨_, rfl⟩
    rw [← eμ] at b1 b2 R1 ⊢
    obtain ⟨c1, c2⟩ := qs_183 (N := N) (r := qb_sh n (1 + k)) (by omega) hB R1 (fun c hc => ⟨b1 c hc, by have := qk_sh2 (n := n) (g := 1 + k) (c := c); omega⟩)
    have R2 := qv_RF c2 (fun a j h c => by omega) R1
    obtain ⟨ν, eν⟩ : ∃ ν, ν = ma_183_99 N μ := ⟨_, rfl⟩
    rw [← eν] at c1 c2 R2 ⊢
    have d := qs_197 (N := N) (x := qs_gl n s T) (y := qs_X n T (1 + k)) (by omega) hB R2 (fun m hm => ⟨by rw [c2 109 m (by omega), b2 109 m (by omega), g3 109 m (by omega)]; exact g9 m hm, qs_gll hB hm⟩) (fun m hm => ⟨c1 m hm, by have := qs_Xl (g := 1 + k) hB hm; omega⟩)
    rw [d]
    refine ⟨_, rfl, rfl, fun g ga gb => ?_, fun a j ha => ?_⟩
    · dsimp only
      rw [qb_uJ]
      by_cases e : g = 1 + k
      · rw [if_pos e, e]
      · rw [if_neg e, c2 112 g (by omega), b2 112 g (by omega)]; exact g2 g ga (by omega)
    · dsimp only
      rw [qb_uA (by omega), c2 a j (by omega), b2 a j (by omega)]; exact g3 a j ha
  · rintro ⟨q1, q2⟩ ⟨g1, g2, g3⟩
    dsimp only at g1 g2 g3
    subst g1
    unfold mc_194_99_p11
    dsimp only
    rw [if_neg (show ¬ nI (1 + (3 ^ n - 1)) < nI (3 ^ n) from qb_ltF (by omega) (by omega))]
    exact ⟨_, rfl, qv_RF g3 (fun a j h c => by omega) R, fun g ga gb => g2 g ga (by omega), qb_Ft F g3 (fun a j h => by omega) (fun a j h => by omega)⟩
/-- whether some tasters' bits all stand -/
theorem qs_bw {p : Nat → Bool} {w : Nat} (ht : t ≤ 6) (hw : w < 2 ^ t) : (nI (qs_en p t) &&& nI w = nI w) ↔ qs_any (fun i => w.testBit i && !p i) t = false := by
  have w64 := qs_2t ht
  have h1 := qs_enl (p := p) t
  have h2 : qs_en p t &&& w ≤ w := Nat.and_le_right
  rw [qw_an, qb_eq (by omega) (by omega), qs_anyF]
  constructor
  · intro h i hi
    have e : (qs_en p t &&& w).testBit i = w.testBit i := by rw [h]
    rw [Nat.testBit_and, qs_ent, decide_eq_true hi, Bool.true_and] at e
    cases hw1 : w.testBit i
    · rfl
    · rw [hw1, Bool.and_true] at e
      rw [e]; rfl
  · intro h
    apply Nat.eq_of_testBit_eq
    intro i
    rw [Nat.testBit_and, qs_ent]
    by_cases l : i < t
    · have := h i l
      rw [decide_eq_true l, Bool.true_and]
      cases hw1 : w.testBit i
      · exact Bool.and_false _
      · rw [hw1, Bool.true_and, Bool.not_eq_false'] at this
        rw [this]; rfl
    · have e : w.testBit i = false := Nat.testBit_lt_two_pow (Nat.lt_of_lt_of_le hw (Nat.pow_le_pow_right (by omega) (by omega)))
      rw [e, Bool.and_false]
theorem qs_bwf {w g : Nat} (ht : t ≤ 6) (hw : w < 2 ^ t) : (nI (qs_en (fun i => !qs_ap (o i) (b i) x (qs_X n T g)) t) &&& nI w = nI w) ↔ qs_fb n t T o b x w g = true := by
  rw [qs_bw ht hw]
  unfold qs_fb
  rw [Bool.not_eq_true', qs_anyx (g := fun i => w.testBit i && qs_ap (o i) (b i) x (qs_X n T g)) (fun i _ => by rw [Bool.not_not])]
theorem qs_199 {w : Nat} (hN : 5000 ≤ N) (hB : qv_B n t s T o b) (h0 : τ 99 0 = nI n) (hA : qs_A n t T o b x τ) (hw : w < 2 ^ t) : ma_199_99 N (nI w) τ = nI (qs_cn n (qs_fb n t T o b x w)) := by
  have n7 := hB.1
  have l3 := qk_3n n7
  have p0 : 0 < 3 ^ n := Nat.pow_pos (by omega)
  unfold ma_199_99
  dsimp only [qa_in]
  rw [qs_195 (by omega) n7 h0]
  refine congrArg Prod.snd (qw_lp (e := fun s => s) (fun k (a : Nat) => (nI (1 + k), nI a)) (fun a => (nI (1 + (3 ^ n - 1)), nI a)) (fun k a => if qs_fb n t T o b x w (1 + k) then a + 1 else a) (3 ^ n - 1) 0 (by omega) (fun k a hk => ?_) (fun a => ?_))
  · unfold mc_199_99_p10
    dsimp only
    rw [if_pos (show nI (1 + k) < nI (3 ^ n) from qb_ltT (by omega) (by omega)), qb_n (k := 1 + k) (by omega), hA (1 + k) (by omega) (by omega), qb_s]
    by_cases c : qs_fb n t T o b x w (1 + k) = true
    · rw [if_pos ((qs_bwf hB.2.1 hw).mpr c), if_pos c, qb_s]; rfl
    · rw [if_neg (fun h => c ((qs_bwf hB.2.1 hw).mp h)), if_neg c, Int32.add_zero]; rfl
  · unfold mc_199_99_p10
    dsimp only
    rw [if_neg (show ¬ nI (1 + (3 ^ n - 1)) < nI (3 ^ n) from qb_ltF (by omega) (by omega))]
end QL1
