/-! two -/
section QE
variable {n t : Nat} {x s : Nat → Nat} {T : Nat → Nat → Nat} {o b : Nat → Nat} {σ τ : qa_S} {N : Nat}
/-- four marks: both gatherings -/
theorem qs_or4 (w z X : Int32) (p : Nat → Bool) : qw_f (fun m (a : Int32 × Int32) => (a.1 ||| (if p m then X else 0), a.2 ||| (if p m then (1 : Int32) <<< (nI m &&& 31) else 0))) 4 (w, z) = (if p 0 || p 1 || p 2 || p 3 then w ||| X else w, z ||| qw_f (fun m a => if p m then a ||| ((1 : Int32) <<< (nI m &&& 31)) else a) 4 0) := by
  unfold qw_f qw_f qw_f qw_f qw_f
  generalize p 0 = p0
  generalize p 1 = p1
  generalize p 2 = p2
  generalize p 3 = p3
  cases p0 <;> cases p1 <;> cases p2 <;> cases p3 <;> simp only [Bool.false_eq_true, ↓reduceIte, Int32.or_zero, Int32.zero_or, Int32.or_assoc, Int32.or_self, Bool.or_false, Bool.false_or, Bool.or_true, Bool.true_or]
theorem qs_no9 {r : Nat → Nat} {w0 : Int32} (hr : ∀ i, i < 12 → r i ≤ 99) : ∀ k, k ≤ 12 → qw_f (fun i (a : Int32) => if a = 0 then (if 9 < nI (r i) then -3 else a) else a) k w0 = if w0 = 0 then (if ∃ i, i < k ∧ 9 < r i then -3 else 0) else w0 := by
  intro k
  induction k with
  | zero =>
    intro _
    show w0 = _
    by_cases z : w0 = 0
    · rw [if_pos z, if_neg (fun h => by obtain ⟨i, hi, -⟩ := h; omega), z]
    · rw [if_neg z]
  | succ k ih =>
    intro hk
    show (if qw_f _ k w0 = 0 then (if 9 < nI (r k) then -3 else qw_f _ k w0) else qw_f _ k w0) = _
    rw [ih (by omega)]
    by_cases z : w0 = 0
    · rw [if_pos z, if_pos z]
      by_cases h : ∃ i, i < k ∧ 9 < r i
      · obtain ⟨i, hi, h9⟩ := h
        have e1 : (if ∃ i, i < k ∧ 9 < r i then (-3 : Int32) else 0) = -3 := if_pos ⟨i, hi, h9⟩
        rw [e1, if_neg (show ¬ (-3 : Int32) = 0 by decide), if_pos (show ∃ i, i < k + 1 ∧ 9 < r i from ⟨i, by omega, h9⟩)]
      · have e1 : (if ∃ i, i < k ∧ 9 < r i then (-3 : Int32) else 0) = 0 := if_neg h
        rw [e1, if_pos (show (0 : Int32) = 0 from rfl)]
        have rk := hr k (by omega)
        by_cases c : 9 < r k
        · rw [if_pos (show (9 : Int32) < nI (r k) from qb_ltT (a := 9) c (by omega)), if_pos (show ∃ i, i < k + 1 ∧ 9 < r i from ⟨k, by omega, c⟩)]
        · rw [if_neg (show ¬ (9 : Int32) < nI (r k) from qb_ltF (a := 9) (by omega) (by omega)), if_neg (show ¬ ∃ i, i < k + 1 ∧ 9 < r i from fun g => by
            obtain ⟨i, hi, h9⟩ := g
            by_cases e : i = k
            · subst e; exact c h9
            · exact h ⟨i, by omega, h9⟩)]
    · rw [if_neg z, if_neg z, if_neg z]
theorem qc_108 {xx yy : Prop} (hN : 5000 ≤ N) (hI : qb_I xx yy σ) (hr : ∀ i, i < 12 → 0 ≤ (σ 92 i).toInt ∧ (σ 92 i).toInt ≤ 99) (x1 : Int32) : (ma_108_3 N x1 σ).1 = (ma_224_99 N x1 (ma_108_3 N x1 σ).2).1 := by
  obtain ⟨n, t, s, T, o, b, B, C, P⟩ := qv_get hI
  obtain ⟨k, r, k12, r99, rw1, rx1⟩ := qv_row hI hr
  have F : qb_F qb_sm2 σ (ma_108_3 N x1 σ).2 := mf_108_3 qb_hw (qb_hm (by omega)) qb_Fr
  suffices h : ∀ τ, qv_P n t s T o b (qa_u τ 99 9 0) → qv_rx k r (qa_u τ 99 9 0) → (ma_108_3 N x1 σ).1 = (ma_224_99 N x1 τ).1 from h _ (qv_P2 F P) (qv_rF (qb_Fu (w := fun a j => a = 99 ∧ j = 9) ⟨rfl, rfl⟩) (fun a j h c => by omega) (qv_rF F (fun a j h c => by unfold qb_sm2 qb_sc at c; omega) rx1))
  intro τ hP hR
  have n7 := B.1
  have t6 := B.2.1
  obtain ⟨w0, ew⟩ : ∃ w0, w0 = (if ma_158 x1.toInt64 0 1 = 0 then (-2 : Int32) else if qa_u τ 99 9 0 99 35 = qa_u τ 99 9 0 99 0 then 0 else -3) := ⟨_, rfl⟩
  have L0 : (qa_wh (fun s => s) (mc_224_99_p40 N x1 (qa_u τ 99 9 0)) N ((0 : Int32), w0)).2 = if w0 = 0 then (if ∃ i, i < k ∧ 9 < r i then -3 else 0) else w0 := by
    rw [← qs_no9 r99 k k12]
    refine congrArg Prod.snd (qw_lp (e := fun s => s) (fun j (a : Int32) => (nI j, a)) (fun a => (nI k, a)) (fun i (a : Int32) => if a = 0 then (if 9 < nI (r i) then -3 else a) else a) k w0 (by omega) (fun i a hi => ?_) (fun a => ?_))
    · unfold mc_224_99_p40
      dsimp only
      rw [if_pos (qw_ltT hR.1 hi (by omega)), qb_n (k := i) (by omega), hR.2 i (by omega), qb_s]
    · unfold mc_224_99_p40
      dsimp only
      rw [if_neg (qw_ltF hR.1 (by omega))]
  unfold ma_108_3 ma_224_99
  dsimp only [qa_in]
  rw [← ew, L0]
  obtain ⟨W, eW⟩ : ∃ W, W = (if w0 = 0 then (if ∃ i, i < k ∧ 9 < r i then (-3 : Int32) else 0) else w0) := ⟨_, rfl⟩
  rw [← eW]
  rcases qw_w x1 with ⟨w1, w2, -⟩ | ⟨-, w1, w2⟩
  · have e : w0 = -2 := by rw [ew, if_pos w2]
    have e2 : W = -2 := by rw [eW, e]; exact if_neg (by decide)
    rw [if_pos w1, qb_9_2, e2, if_pos (show (-2 : Int32) < 0 by decide)]; rfl
  rw [if_neg w1]
  have ek : (qa_u τ 99 9 0 99 35 = qa_u τ 99 9 0 99 0) ↔ k = n := by rw [hR.1, hP.1]; exact qb_eq (by omega) (by omega)
  have V : ma_109_3 N σ = if k = n ∧ ¬ ∃ i, i < k ∧ 9 < r i then 1 else 0 := by
    unfold ma_109_3
    have e2 : (σ 3 16 = σ 4 0) ↔ k = n := by rw [rw1.1, C.1]; exact qb_eq (by omega) (by omega)
    by_cases z : k = n
    · rw [if_pos (e2.mpr z)]
      dsimp only [qa_in]
      have A := qw_lf (e := fun s => Sum.inr s) (step := mc_109_3_p18 N σ) (N := N) (fun i => 9 < r i) (fun i => nI i) (fun _ => (0 : Int32)) 1 (fun z => qa_cs z (fun b3 => b3) (fun b3 => (1 : Int32))) k (by omega) (fun i hi => by
        have ri := r99 i (by omega)
        unfold mc_109_3_p18
        rw [if_pos (qw_ltT rw1.1 hi (by omega)), qb_n (k := i) (by omega), rw1.2 i (by omega), qb_s]
        by_cases c : 9 < r i
        · exact Or.inr ⟨c, _, by rw [if_pos (show (9 : Int32) < nI (r i) from qb_ltT (a := 9) c (by omega))], rfl⟩
        · exact Or.inl ⟨c, by rw [if_neg (show ¬ (9 : Int32) < nI (r i) from qb_ltF (a := 9) (by omega) (by omega))]⟩) ⟨_, by unfold mc_109_3_p18; rw [if_neg (qw_ltF rw1.1 (by omega))], rfl⟩
      rcases A with ⟨i, i1, i2, -, i4⟩ | ⟨i1, i2⟩
      · refine Eq.trans i4 ?_
        rw [if_neg (fun h => h.2 ⟨i, i1, i2⟩)]
      · refine Eq.trans i2 ?_
        rw [if_pos ⟨z, fun h => by obtain ⟨i, a, c⟩ := h; exact i1 i a c⟩]
    · rw [if_neg (fun h => z (e2.mp h)), if_neg (fun h => z h.1)]
  by_cases z : k = n
  · have e0 : w0 = 0 := by rw [ew, if_neg w2, if_pos (ek.mpr z)]
    by_cases h9 : ∃ i, i < k ∧ 9 < r i
    · have e1 : ma_109_3 N σ = 0 := by rw [V]; exact if_neg (fun h => h.2 h9)
      have e2 : W = -3 := by rw [eW, if_pos e0]; exact if_pos h9
      rw [e1, if_pos (show (0 : Int32) = 0 from rfl), qb_9_3, e2, if_pos (show (-3 : Int32) < 0 by decide)]; rfl
    have e1 : ma_109_3 N σ = 1 := by rw [V]; exact if_pos ⟨z, h9⟩
    have e2 : W = 0 := by rw [eW, if_pos e0]; exact if_neg h9
    rw [e1, if_neg (show ¬ (1 : Int32) = 0 by decide), e2, if_neg (show ¬ (0 : Int32) < 0 by decide)]
    dsimp only
    have r9 : ∀ c, c < n → r c ≤ 9 := fun c hc => Nat.le_of_not_lt (fun h => h9 ⟨c, by omega, h⟩)
    have ml := fun m (hm : m < 4) => (qs_mxl (n := n) (s := r) (T := T) (w := 0) (m := m) n7 (fun c hc => by have := r9 c hc; omega) (fun c hc => B.2.2.2.1 c m hc hm)).2.2
    -- the class
    obtain ⟨q1, F1⟩ := qs_46 (N := N) (by omega) B C
    have C1 := qv_CF F1 (fun a j h c => by omega) C n7
    obtain ⟨σ1, eσ⟩ : ∃ σ1, σ1 = ma_46_3 N σ := ⟨_, rfl⟩
    rw [← eσ] at q1 F1 C1 ⊢
    obtain ⟨q2, F2⟩ := qs_47 (N := N) (S0 := -1) (w := 0) (a4 := 95) (l1 := 92) (e := fun _ => true) (s1 := r) (by omega) B C1 (by omega) (Or.inr rfl) (Or.inr rfl) (fun c hc => ⟨(F1 92 c (by omega)).trans (rw1.2 c (by omega)), by have := r9 c hc; omega⟩) (fun c hc => qs_48e c (by omega))
    have C2 := qv_CF F2 (fun a j h c => by omega) C1 n7
    have q1' : ∀ m, m < 4 → ma_47_4 N 92 (-1) (nI 0) 95 σ1 94 m = nI (qs_gl n s T m) ∧ qs_gl n s T m < 1000000 := fun m hm => ⟨(F2 94 m (by omega)).trans (q1 m hm), qs_gll B hm⟩
    have q2' : ∀ m, m < 4 → ma_47_4 N 92 (-1) (nI 0) 95 σ1 95 m = nI (qs_mx n r T 0 m) ∧ qs_mx n r T 0 m < 1000000 := fun m hm => ⟨q2 m hm, ml m hm⟩
    have ez : (0 : Int32) = nI 0 := rfl
    have A : qa_wh (fun s => s) (mc_108_3_p56 N x1 (ma_47_4 N 92 (-1) 0 95 σ1)) N ((0 : Int32), (0 : Int32), (0 : Int32)) = (nI t, qw_f (fun i (a : Int32 × Int32) => (if qs_ap (o i) (b i) (qs_gl n s T) (qs_mx n r T 0) then a.1 ||| ((1 : Int32) <<< (nI i &&& 31)) else a.1, a.2 ||| qs_un (o i) (b i) (qs_gl n s T) (qs_mx n r T 0))) t (0, 0)) := by
      refine qw_lp (e := fun s => s) (fun k (a : Int32 × Int32) => (nI k, a)) (fun a => (nI t, a)) (fun i (a : Int32 × Int32) => (if qs_ap (o i) (b i) (qs_gl n s T) (qs_mx n r T 0) then a.1 ||| ((1 : Int32) <<< (nI i &&& 31)) else a.1, a.2 ||| qs_un (o i) (b i) (qs_gl n s T) (qs_mx n r T 0))) t (0, 0) (by omega) (fun i a hi => ?_) (fun a => ?_)
      · have u := qs_54 (N := N) (by omega) B C2 (i := i) (by omega) q1' q2'
        have u' : ma_54_3 N (nI i) 94 95 (ma_47_4 N 92 (-1) 0 95 σ1) = qs_un (o i) (b i) (qs_gl n s T) (qs_mx n r T 0) := u
        have c2 : ma_47_4 N 92 (-1) 0 95 σ1 4 1 = nI t := C2.2.1
        unfold mc_108_3_p56
        dsimp only [qa_in]
        rw [if_pos (qw_ltT c2 hi (by omega)), u', qb_s]
        cases h : qs_ap (o i) (b i) (qs_gl n s T) (qs_mx n r T 0)
        · rw [if_pos (qs_unz.mpr h)]; rfl
        · rw [if_neg (fun c => by rw [qs_unz.mp c] at h; cases h)]; rfl
      · have c2 : ma_47_4 N 92 (-1) 0 95 σ1 4 1 = nI t := C2.2.1
        unfold mc_108_3_p56
        dsimp only
        rw [if_neg (qw_ltF c2 (by omega))]
    rw [A]
    -- the reference
    obtain ⟨R, -, g2, G1⟩ := qs_180 (N := N) (by omega) B hP
    have hR2 := qv_rF G1 (fun a j h c => by omega) hR
    obtain ⟨ρ, eρ⟩ : ∃ ρ, ρ = ma_180_99 N (qa_u τ 99 9 0) := ⟨_, rfl⟩
    rw [← eρ] at R g2 hR2 ⊢
    obtain ⟨ρ2, e2, R2, G2, h2⟩ : ∃ ρ2, (qa_wh (fun s => s) (mc_224_99_p92 N x1) N ((0 : Int32), ρ)).2 = ρ2 ∧ qv_R n t s T o b ρ2 ∧ qb_F (fun a _ => a = 110) ρ ρ2 ∧ ∀ c, c < n → ρ2 110 c = nI (r c) := by
      refine ⟨_, rfl, ?_⟩
      refine qb_l0 (fun (k : Nat) (q : Int32 × qa_S) => q.1 = nI k ∧ qv_R n t s T o b q.2 ∧ qb_F (fun a _ => a = 110) ρ q.2 ∧ ∀ c, c < k → q.2 110 c = nI (r c)) (fun (q : Int32 × qa_S) => qv_R n t s T o b q.2 ∧ qb_F (fun a _ => a = 110) ρ q.2 ∧ ∀ c, c < n → q.2 110 c = nI (r c)) n (by omega) ⟨rfl, R, qb_Fr, fun c hc => by omega⟩ ?_ ?_
      · rintro j ⟨q1, q2⟩ hj ⟨g1, g2, g3, g4⟩
        dsimp only at g1 g2 g3 g4
        subst g1
        unfold mc_224_99_p92
        dsimp only [qa_in]
        rw [if_pos (qw_ltT g2.1 hj (by omega)), qb_n (k := j) (by omega), qb_s, g3 122 j (by omega), hR2.2 j (by omega)]
        refine ⟨_, rfl, rfl, qv_RF (qb_Fu (w := fun a _ => a = 110) rfl) (fun a j h c => by omega) g2, fun a j h => (qb_uA h).trans (g3 a j h), fun c hc => ?_⟩
        dsimp only
        rw [qb_uJ]
        by_cases e : c = j
        · rw [if_pos e, e]
        · rw [if_neg e]; exact g4 c (by omega)
      · rintro ⟨q1, q2⟩ ⟨g1, g2, g3, g4⟩
        dsimp only at g1 g2 g3 g4
        subst g1
        unfold mc_224_99_p92
        dsimp only
        rw [if_neg (qw_ltF g2.1 (by omega))]
        exact ⟨_, rfl, g2, g3, g4⟩
    rw [e2]
    obtain ⟨h3, G3⟩ := qs_183 (N := N) (by omega) B R2 (r := r) (fun c hc => ⟨h2 c hc, by have := r9 c hc; omega⟩)
    have R3 := qv_RF G3 (fun a j h c => by omega) R2
    have g3 : ∀ m, m < 4 → ma_183_99 N ρ2 109 m = nI (qs_gl n s T m) := fun m hm => by rw [G3 109 m (by omega), G2 109 m (by omega)]; exact g2 m hm
    obtain ⟨ρ3, e3⟩ : ∃ ρ3, ρ3 = ma_183_99 N ρ2 := ⟨_, rfl⟩
    rw [← e3] at h3 R3 g3 ⊢
    have D : qa_wh (fun s => s) (mc_224_99_p130 N x1 ρ3) N ((0 : Int32), (0 : Int32), (0 : Int32)) = (nI t, qw_f (fun i (a : Int32 × Int32) => (if qs_ap (o i) (b i) (qs_gl n s T) (qs_mx n r T 0) then a.1 ||| ((1 : Int32) <<< (nI i &&& 31)) else a.1, a.2 ||| qs_un (o i) (b i) (qs_gl n s T) (qs_mx n r T 0))) t (0, 0)) := by
      refine qw_lp (e := fun s => s) (fun k (a : Int32 × Int32) => (nI k, a)) (fun a => (nI t, a)) (fun i (a : Int32 × Int32) => (if qs_ap (o i) (b i) (qs_gl n s T) (qs_mx n r T 0) then a.1 ||| ((1 : Int32) <<< (nI i &&& 31)) else a.1, a.2 ||| qs_un (o i) (b i) (qs_gl n s T) (qs_mx n r T 0))) t (0, 0) (by omega) (fun i a hi => ?_) (fun a => ?_)
      · obtain ⟨o15, b9⟩ := B.2.2.2.2 i (by omega)
        have Z : qa_wh (fun s => s) (mc_224_99_p142 N x1 (nI i) ρ3) N ((0 : Int32), a.1, a.2) = (nI 4, (if qs_ap (o i) (b i) (qs_gl n s T) (qs_mx n r T 0) then a.1 ||| ((1 : Int32) <<< (nI i &&& 31)) else a.1, a.2 ||| qs_un (o i) (b i) (qs_gl n s T) (qs_mx n r T 0))) := by
          have h := qw_lp (e := fun s => s) (step := mc_224_99_p142 N x1 (nI i) ρ3) (N := N) (fun k (a : Int32 × Int32) => (nI k, a)) (fun a => (nI 4, a)) (fun m (y : Int32 × Int32) => (y.1 ||| (if qs_u (o i) (b i) (qs_gl n s T) (qs_mx n r T 0) m then (1 : Int32) <<< (nI i &&& 31) else 0), y.2 ||| (if qs_u (o i) (b i) (qs_gl n s T) (qs_mx n r T 0) m then (1 : Int32) <<< (nI m &&& 31) else 0))) 4 (a.1, a.2) (by omega) (fun m y hm => ?_) (fun y => ?_)
          · rw [qs_or4] at h
            exact h
          · have gl := qs_gll (m := m) B hm
            unfold mc_224_99_p142
            dsimp only
            rw [if_pos (show nI m < (4 : Int32) from qb_ltT (b := 4) hm (by omega)), qb_n (k := i) (by omega), qb_n (k := m) (by omega), (R3.2.2.2.1 i (by omega)).1, h3 m hm, g3 m hm, qs_186 (by rw [qb_n (by omega)]; exact (R3.2.2.2.1 i (by omega)).2) (ml m hm) b9, qs_186 (by rw [qb_n (by omega)]; exact (R3.2.2.2.1 i (by omega)).2) gl b9, qs_185 (o i) (by omega) m (by omega), qb_s]
            have e := qs_eqi (a := qs_tl (b i) (qs_gl n s T m)) (b := qs_tl (b i) (qs_mx n r T 0 m)) (Nat.lt_of_le_of_lt qs_tlle gl) (Nat.lt_of_le_of_lt qs_tlle (ml m hm))
            unfold qs_u
            have k1 : ¬ (1 : Int32) = 0 := by decide
            by_cases h1 : (o i).testBit m = true
            · simp only [h1, ↓reduceIte, if_neg k1, Bool.true_and]
              by_cases c1 : nI (qs_tl (b i) (qs_gl n s T m)) = nI (qs_tl (b i) (qs_mx n r T 0 m))
              · simp only [if_pos c1.symm, e.mp c1, Bool.not_true, Bool.false_eq_true, ↓reduceIte]
              · have c3 : ¬ nI (qs_tl (b i) (qs_mx n r T 0 m)) = nI (qs_tl (b i) (qs_gl n s T m)) := fun h => c1 h.symm
                simp only [if_neg c3, Bool.eq_false_iff.mpr (fun c => c1 (e.mpr c)), Bool.not_false, ↓reduceIte, if_neg k1]
            · simp only [Bool.eq_false_iff.mpr h1, Bool.false_eq_true, ↓reduceIte, Bool.false_and]
          · unfold mc_224_99_p142
            dsimp only
            rw [if_neg (show ¬ nI 4 < (4 : Int32) by decide)]
        unfold mc_224_99_p130
        dsimp only [qa_in]
        rw [if_pos (qw_ltT R3.2.1 hi (by omega)), Z, qb_s]
      · unfold mc_224_99_p130
        dsimp only
        rw [if_neg (qw_ltF R3.2.1 (by omega))]
    rw [D]
  · have e0 : w0 = -3 := by rw [ew, if_neg w2, if_neg (fun h => z (ek.mp h))]
    have e1 : ma_109_3 N σ = 0 := by rw [V]; exact if_neg (fun h => z h.1)
    have e2 : W = -3 := by rw [eW, e0]; exact if_neg (by decide)
    rw [e1, if_pos (show (0 : Int32) = 0 from rfl), qb_9_3, e2, if_pos (show (-3 : Int32) < 0 by decide)]; rfl
end QE
