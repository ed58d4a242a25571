/-! CALLS BY GLASSES: the best of some (tellsMost, duo), guess, alikeGlasses, pour -/
section QO
variable {n t : Nat} {x s : Nat → Nat} {T : Nat → Nat → Nat} {o b : Nat → Nat} {σ τ : qa_S} {N : Nat}
/-! guess -/
/-! alikeGlasses, pour: a taster thought -/
theorem qs_tl0 {y : Nat} : qs_tl 0 y = y := by unfold qs_tl; rw [Nat.zero_add, Nat.div_one, Nat.mul_one]
theorem qs_fb1 {q y : Nat} {g : Nat} : qs_fb n 1 T (fun _ => q) (fun _ => 0) x 1 g = true ↔ ∀ m, m < 4 → q.testBit m = true → x m = qs_X n T g m := by
  unfold qs_fb
  rw [Bool.not_eq_true', qs_anyF]
  constructor
  · intro h m hm hq
    have := h 0 (by omega)
    rw [show (1 : Nat).testBit 0 = true from rfl, Bool.true_and, qs_apF] at this
    have := this m hm hq
    rwa [qs_tl0, qs_tl0] at this
  · intro h i hi
    have e : i = 0 := by omega
    subst e
    rw [show (1 : Nat).testBit 0 = true from rfl, Bool.true_and, qs_apF]
    intro m hm hq
    rw [qs_tl0, qs_tl0]
    exact h m hm hq
theorem qs_lo1 {q m : Nat} : qs_lo 1 1 (fun _ => q) (fun _ => 0) x m = if q.testBit m then x m else 0 := by
  have e : qs_lo 1 1 (fun _ => q) (fun _ => 0) x m = if (1 : Nat).testBit 0 && q.testBit m then (if 0 < qs_tl 0 (x m) then qs_tl 0 (x m) else 0) else 0 := rfl
  rw [e, show (1 : Nat).testBit 0 = true from rfl, Bool.true_and, qs_tl0]
  by_cases c : q.testBit m = true
  · rw [if_pos c, if_pos c]; split <;> omega
  · rw [if_neg c, if_neg c]
theorem qs_hi1 {q m : Nat} (hx : x m ≤ 99) : qs_hi 1 1 (fun _ => q) (fun _ => 0) x m = if q.testBit m then x m else 99 := by
  have e : qs_hi 1 1 (fun _ => q) (fun _ => 0) x m = if (1 : Nat).testBit 0 && q.testBit m then (if qs_tl 0 (x m) + 0 < 99 then qs_tl 0 (x m) + 0 else 99) else 99 := rfl
  rw [e, show (1 : Nat).testBit 0 = true from rfl, Bool.true_and, qs_tl0]
  by_cases c : q.testBit m = true
  · rw [if_pos c, if_pos c]; split <;> omega
  · rw [if_neg c, if_neg c]
theorem qv_B1 {q : Nat} (hB : qv_B n t s T o b) (hq : q ≤ 15) : qv_B n 1 s T (fun _ => q) (fun _ => 0) := ⟨hB.1, by omega, hB.2.2.1, hB.2.2.2.1, fun i hi => ⟨hq, Nat.zero_le 9⟩⟩
theorem qs_15 : ∀ m, m < 4 → (15 : Nat).testBit m = true := by decide
theorem qc_135 {xx : Prop} (hN : 5000 ≤ N) (hI : qb_I xx True σ) (hk : qk_M σ) : (ma_135_3 N σ).1 = (ma_243_99 N (ma_135_3 N σ).2).1 := by
  obtain ⟨n, t, s, T, o, b, B, C, P⟩ := qv_get hI
  have F : qb_F qb_sm2 σ (ma_135_3 N σ).2 := mf_135_3 qb_hw (qb_hm (by omega)) qb_Fr
  suffices h : ∃ v, (ma_135_3 N σ).1 = v ∧ ∀ τ, qv_P n t s T o b (qa_u τ 99 9 0) → (ma_243_99 N τ).1 = v by
    obtain ⟨v, h1, h2⟩ := h
    exact h1.trans (h2 _ (qv_P2 F P)).symm
  have n7 := B.1
  have l3 := qk_3n n7
  have p0 : 0 < 3 ^ n := Nat.pow_pos (by omega)
  have gl9 : ∀ m, m < 4 → qs_gl n s T m ≤ 99 := fun m hm => qs_mx99 (fun c hc => B.2.2.2.1 c m hc hm)
  unfold ma_135_3 ma_243_99
  dsimp only [qa_in]
  obtain ⟨q1, F1⟩ := qs_46 (N := N) (by omega) B C
  have C1 := qv_CF F1 (fun a j h c => by omega) C n7
  have M1 : qk_M (ma_46_3 N σ) := qk_MF F1 (fun a j r => by unfold qb_rQ at r; omega) hk
  obtain ⟨μ, eμ⟩ : ∃ μ, μ = ma_46_3 N σ := ⟨_, rfl⟩
  rw [← eμ] at q1 F1 C1 M1 ⊢
  obtain ⟨o1, F2⟩ := qs_67 (σ := μ) (N := N) (by omega)
  obtain ⟨ν, eν⟩ : ∃ ν, ν = ma_67_80 N μ := ⟨_, rfl⟩
  rw [← eν] at o1 F2 ⊢
  have A : (fun (κ : qa_S) => (∀ m, m < 4 → κ 81 m = nI (qs_gl n s T m) ∧ κ 82 m = nI (qs_gl n s T m)) ∧ qb_F (fun a _ => a = 81 ∨ a = 82) μ κ) (qa_wh (fun s => s) (mc_135_3_p13 N) N ((0 : Int32), ν)).2 := by
    refine qb_l0 (fun (k : Nat) (q : Int32 × qa_S) => q.1 = nI k ∧ (∀ m, m < k → q.2 81 m = nI (qs_gl n s T m) ∧ q.2 82 m = nI (qs_gl n s T m)) ∧ (∀ m, k ≤ m → m < 4 → q.2 81 m = 0 ∧ q.2 82 m = 99) ∧ qb_F (fun a _ => a = 81 ∨ a = 82) μ q.2) (fun (q : Int32 × qa_S) => (∀ m, m < 4 → q.2 81 m = nI (qs_gl n s T m) ∧ q.2 82 m = nI (qs_gl n s T m)) ∧ qb_F (fun a _ => a = 81 ∨ a = 82) μ q.2) 4 (by omega) ⟨rfl, fun m hm => by omega, fun m _ hm => o1 m hm, F2⟩ ?_ ?_
    · rintro k ⟨r1, r2⟩ hk ⟨g1, g2, g3, g4⟩
      dsimp only at g1 g2 g3 g4
      subst g1
      have g9 := gl9 k hk
      obtain ⟨p1, p2, p3⟩ := qs_69 (σ := r2) (c := 0) (y := qs_gl n s T k) (l := 0) (h := 99) hk (by omega) (by omega) (g3 k (Nat.le_refl k) hk).1 (g3 k (Nat.le_refl k) hk).2 (by omega) (by omega)
      unfold mc_135_3_p13
      dsimp only [qa_in]
      rw [if_pos (show nI k < (4 : Int32) from qb_ltT (b := 4) hk (by omega)), qb_n (k := k) (by omega), g4 94 k (by omega), q1 k hk, qb_s, show (0 : Int32) = nI 0 from rfl]
      refine ⟨_, rfl, rfl, fun m hm => ?_, fun m h1 h2 => ?_, fun a j ha => ?_⟩
      · dsimp only
        by_cases e : m = k
        · subst e
          rw [p1, p2, qs_tl0]
          refine ⟨congrArg nI ?_, congrArg nI ?_⟩
          · split <;> omega
          · split <;> omega
        · rw [p3 81 m (by omega), p3 82 m (by omega)]; exact g2 m (by omega)
      · dsimp only
        rw [p3 81 m (by omega), p3 82 m (by omega)]; exact g3 m (by omega) h2
      · dsimp only
        rw [p3 a j (by omega)]; exact g4 a j ha
    · rintro ⟨r1, r2⟩ ⟨g1, g2, g3, g4⟩
      dsimp only at g1 g2 g3 g4
      subst g1
      unfold mc_135_3_p13
      dsimp only
      rw [if_neg (show ¬ nI 4 < (4 : Int32) by decide)]
      exact ⟨_, rfl, g2, g4⟩
  obtain ⟨κ, eκ⟩ : ∃ κ, κ = (qa_wh (fun s => s) (mc_135_3_p13 N) N ((0 : Int32), ν)).2 := ⟨_, rfl⟩
  rw [← eκ] at A ⊢
  obtain ⟨A1, A2⟩ := A
  have C2 := qv_CF A2 (fun a j h c => by omega) C1 n7
  have M2 : qk_M κ := qk_MF A2 (fun a j r => by unfold qb_rQ at r; omega) M1
  obtain ⟨Q, z, F3⟩ := qk_72 (N := N) hN M2.1 M2.2
  obtain ⟨κ', eκ'⟩ : ∃ κ', κ' = ma_72_3 N κ := ⟨_, rfl⟩
  rw [← eκ'] at Q z F3 ⊢
  have C3 := qv_CF F3 (fun a j h c => by omega) C2 n7
  have V := qs_V1 B C3 Q z
  have W : qs_W (qs_lo 1 1 (fun _ => 15) (fun _ => 0) (qs_gl n s T)) (qs_hi 1 1 (fun _ => 15) (fun _ => 0) (qs_gl n s T)) κ' := fun m hm => by
    rw [qs_lo1, qs_hi1 (gl9 m hm), if_pos (qs_15 m hm), if_pos (qs_15 m hm), F3 81 m (by omega), F3 82 m (by omega)]
    exact A1 m hm
  rw [qs_75 hN (qv_B1 B (q := 15) (by omega)) V W (fun m hm => by have := gl9 m hm; omega)]
  refine ⟨_, rfl, fun τ hP => ?_⟩
  obtain ⟨R, -, g9, G1⟩ := qs_180 (N := N) (by omega) B hP
  obtain ⟨ρ, eρ⟩ : ∃ ρ, ρ = ma_180_99 N (qa_u τ 99 9 0) := ⟨_, rfl⟩
  rw [← eρ] at R g9 G1 ⊢
  rw [qs_195 (by omega) n7 R.1]
  obtain ⟨m, e1, -⟩ := qw_lm (e := fun s => s) (step := mc_243_99_p18 N (nI (3 ^ n))) (N := N) (fun m => qb_F (fun a _ => a = 110 ∨ a = 111) ρ m) (fun k (a : Nat) m => (nI (1 + k), nI a, m)) (fun a m => (nI (1 + (3 ^ n - 1)), nI a, m)) (fun k a => if qs_fb n 1 T (fun _ => 15) (fun _ => 0) (qs_gl n s T) 1 (1 + k) then a + 1 else a) (3 ^ n - 1) 0 ρ (by omega) qb_Fr (fun k a m hk hm => by
    have R0 := qv_RF hm (fun a j h c => by omega) R
    obtain ⟨b1, b2⟩ := qs_196 (N := N) (τ := m) (g := 1 + k) (by omega) n7 R0.1 (by omega)
    have R1 := qv_RF b2 (fun a j h c => by omega) R0
    obtain ⟨m1, em1⟩ : ∃ m1, m1 = ma_196_99 N (nI (1 + k)) m := ⟨_, rfl⟩
    rw [← em1] at b1 b2 R1
    obtain ⟨c1, c2⟩ := qs_183 (N := N) (r := qb_sh n (1 + k)) (by omega) B R1 (fun c hc => ⟨b1 c hc, by have := qk_sh2 (n := n) (g := 1 + k) (c := c); omega⟩)
    obtain ⟨m2, em2⟩ : ∃ m2, m2 = ma_183_99 N m1 := ⟨_, rfl⟩
    rw [← em2] at c1 c2
    have Z : qa_wh (fun s => s) (mc_243_99_p38 N (nI (3 ^ n)) (nI a) (nI (1 + k)) m2) N ((0 : Int32), (1 : Int32)) = (nI 4, if qs_fb n 1 T (fun _ => 15) (fun _ => 0) (qs_gl n s T) 1 (1 + k) then 1 else 0) := by
      have h := qw_lp (e := fun s => s) (step := mc_243_99_p38 N (nI (3 ^ n)) (nI a) (nI (1 + k)) m2) (N := N) (fun j (a : Bool) => (nI j, if a then (1 : Int32) else 0)) (fun a => (nI 4, if a then (1 : Int32) else 0)) (fun j a => a && (qs_X n T (1 + k) j == qs_gl n s T j)) 4 true (by omega) (fun j a hj => ?_) (fun a => ?_)
      · refine Eq.trans h ?_
        have e : qw_f (fun j a => a && (qs_X n T (1 + k) j == qs_gl n s T j)) 4 true = qs_fb n 1 T (fun _ => 15) (fun _ => 0) (qs_gl n s T) 1 (1 + k) := by
          apply Bool.eq_iff_iff.mpr
          rw [qs_fb1 (y := 0)]
          have := qs_allT (f := fun j => qs_X n T (1 + k) j == qs_gl n s T j) 4
          refine this.trans ⟨fun h m hm _ => ?_, fun h m hm => ?_⟩
          · have := h m hm
            rw [beq_iff_eq] at this
            exact this.symm
          · rw [beq_iff_eq]
            exact (h m hm (qs_15 m hm)).symm
        rw [e]
      · have g9' := gl9 j hj
        have x9 := qs_Xl (g := 1 + k) B hj
        unfold mc_243_99_p38
        dsimp only
        rw [if_pos (show nI j < (4 : Int32) from qb_ltT (b := 4) hj (by omega)), qb_n (k := j) (by omega), c1 j hj, c2 109 j (by omega), b2 109 j (by omega), hm 109 j (by omega), g9 j hj, qb_s]
        have e : (nI (qs_mx n (qb_sh n (1 + k)) T 0 j) = nI (qs_gl n s T j)) ↔ (qs_X n T (1 + k) j == qs_gl n s T j) = true := qs_eqi (by unfold qs_X at x9; omega) (by omega)
        cases a
        · rfl
        · by_cases c : nI (qs_mx n (qb_sh n (1 + k)) T 0 j) = nI (qs_gl n s T j)
          · rw [if_pos c, e.mp c]; rfl
          · rw [if_neg c, Bool.eq_false_iff.mpr (fun h => c (e.mpr h))]; rfl
      · unfold mc_243_99_p38
        dsimp only
        rw [if_neg (show ¬ nI 4 < (4 : Int32) by decide)]
    refine ⟨m2, ?_, qb_Ft (qb_Ft hm b2 (fun a j h => h) (fun a j h => Or.inl h)) c2 (fun a j h => h) (fun a j h => Or.inr h)⟩
    unfold mc_243_99_p18
    dsimp only [qa_in]
    rw [if_pos (show nI (1 + k) < nI (3 ^ n) from qb_ltT (by omega) (by omega)), ← em1, ← em2, Z, qb_s]
    cases qs_fb n 1 T (fun _ => 15) (fun _ => 0) (qs_gl n s T) 1 (1 + k)
    · exact congrArg Sum.inl (Prod.ext rfl (Prod.ext (Int32.add_zero _) rfl))
    · exact congrArg Sum.inl (Prod.ext rfl (Prod.ext qb_s rfl))) (fun a m hm => by
    unfold mc_243_99_p18
    dsimp only
    rw [if_neg (show ¬ nI (1 + (3 ^ n - 1)) < nI (3 ^ n) from qb_ltF (by omega) (by omega))]
    exact ⟨_, rfl, hm⟩)
  have e1' : qa_wh (fun s => s) (mc_243_99_p18 N (nI (3 ^ n))) N ((1 : Int32), (0 : Int32), ρ) = _ := e1
  rw [e1']
  rfl
end QO
