/-! adds -/
def qt_fa (k : Nat) : Nat := match k with | 0 => 1 | 1 => 1 | 2 => 2 | 3 => 6 | 4 => 24 | 5 => 120 | 6 => 720 | _ => 5040
theorem qt_fal : ∀ k, k < 8 → 1 ≤ qt_fa k ∧ qt_fa k ≤ 5040 := by decide
theorem qt_en0 : ∀ n, qs_en (fun _ => false) n = 0 := by
  intro n
  induction n with
  | zero => rfl
  | succ n ih => exact ih
/-- none of the bits is another's -/
theorem qt_sub {p : Nat → Bool} {n w : Nat} (hn : n ≤ 7) (hw : w < 2 ^ n) : (nI w &&& (nI (qs_en p n) ^^^ (-1 : Int32)) = 0) ↔ qs_all (fun k => !w.testBit k || p k) n = true := by
  have e : nI w &&& (nI (qs_en p n) ^^^ (-1 : Int32)) = nI (qs_en (fun k => w.testBit k && !p k) n) := by
    apply Int32.toBitVec_inj.mp
    rw [Int32.toBitVec_and, Int32.toBitVec_xor, qw_nt, qw_nt, qw_nt, show (-1 : Int32).toBitVec = BitVec.allOnes 32 by decide]
    apply BitVec.eq_of_getLsbD_eq
    intro i hi
    rw [BitVec.getLsbD_and, BitVec.getLsbD_xor, BitVec.getLsbD_ofNat, BitVec.getLsbD_ofNat, BitVec.getLsbD_ofNat, BitVec.getLsbD_allOnes, qs_ent, qs_ent, decide_eq_true hi]
    by_cases c : i < n
    · rw [decide_eq_true c]
      cases w.testBit i <;> cases p i <;> rfl
    · have z : w.testBit i = false := Nat.testBit_lt_two_pow (Nat.lt_of_lt_of_le hw (Nat.pow_le_pow_right (by omega) (by omega)))
      rw [z, decide_eq_false c]; rfl
  have l1 := qs_enl (p := fun k => w.testBit k && !p k) n
  have l2 : 2 ^ n ≤ 2 ^ 7 := Nat.pow_le_pow_right (by omega) hn
  rw [e, qw_z (by omega), qs_allT]
  constructor
  · intro h k hk
    have := qs_ent (p := fun k => w.testBit k && !p k) n k
    rw [h, Nat.zero_testBit, decide_eq_true hk, Bool.true_and] at this
    cases h1 : w.testBit k
    · rfl
    · rw [h1, Bool.true_and] at this
      cases h2 : p k
      · rw [h2] at this; cases this
      · rfl
  · intro h
    rw [qs_enx (q := fun _ => false) (fun k hk => ?_), qt_en0]
    have := h k hk
    cases h1 : w.testBit k
    · rfl
    · rw [h1] at this
      cases h2 : p k
      · rw [h2] at this; cases this
      · rfl
/-- all but one -/
theorem qt_but {p : Nat → Bool} {n c : Nat} (hn : n ≤ 7) (hc : c < n) : nI (qs_en p n) &&& (nI (2 ^ c) ^^^ (-1 : Int32)) = nI (qs_en (fun k => p k && !decide (c = k)) n) := by
  apply Int32.toBitVec_inj.mp
  rw [Int32.toBitVec_and, Int32.toBitVec_xor, qw_nt, qw_nt, qw_nt, show (-1 : Int32).toBitVec = BitVec.allOnes 32 by decide]
  apply BitVec.eq_of_getLsbD_eq
  intro i hi
  rw [BitVec.getLsbD_and, BitVec.getLsbD_xor, BitVec.getLsbD_ofNat, BitVec.getLsbD_ofNat, BitVec.getLsbD_ofNat, BitVec.getLsbD_allOnes, qs_ent, qs_ent, Nat.testBit_two_pow, decide_eq_true hi]
  cases decide (i < n) <;> cases p i <;> cases decide (c = i) <;> rfl
theorem qt_ct1 {p : Nat → Bool} {c : Nat} (hp : p c = true) : ∀ n, qs_ct p n = qs_ct (fun k => p k && !decide (c = k)) n + (if c < n then 1 else 0) := by
  intro n
  induction n with
  | zero => rfl
  | succ n ih =>
    show (if p n then qs_ct p n + 1 else qs_ct p n) = (if (p n && !decide (c = n)) = true then qs_ct (fun k => p k && !decide (c = k)) n + 1 else qs_ct (fun k => p k && !decide (c = k)) n) + _
    rw [ih]
    by_cases e : c = n
    · subst e
      rw [hp, decide_eq_true rfl, if_pos rfl, if_neg (show ¬ (true && !true) = true by decide), if_neg (Nat.lt_irrefl c), if_pos (Nat.lt_succ_self c)] <;> rfl
    · rw [decide_eq_false e, Bool.not_false, Bool.and_true]
      by_cases l : c < n
      · rw [if_pos l, if_pos (show c < n + 1 by omega)]
        split <;> omega
      · rw [if_neg l, if_neg (show ¬ c < n + 1 by omega)]
        rfl
theorem qt_ctm {p q : Nat → Bool} : ∀ {n}, (∀ k, k < n → p k = true → q k = true) → qs_ct p n ≤ qs_ct q n := by
  intro n
  induction n with
  | zero => intro _; exact Nat.le_refl _
  | succ n ih =>
    intro h
    show (if p n then qs_ct p n + 1 else qs_ct p n) ≤ (if q n then qs_ct q n + 1 else qs_ct q n)
    have := ih (fun k hk => h k (by omega))
    by_cases c : p n = true
    · rw [if_pos c, if_pos (h n (by omega) c)]; omega
    · rw [if_neg c]; split <;> omega
theorem qt_ct7 {n w : Nat} (hn : n ≤ 7) (hw : w < 2 ^ n) : qs_ct (fun k => w.testBit k) 7 = qs_ct (fun k => w.testBit k) n := by
  have e := qs_ctp (p := fun k => w.testBit k) (n := n) (7 - n)
  rw [show n + (7 - n) = 7 by omega] at e
  rw [← e]
  exact qs_ctx (fun k _ => by
    by_cases c : k < n
    · rw [decide_eq_true c, Bool.true_and]
    · rw [decide_eq_false c, Bool.false_and]
      exact Nat.testBit_lt_two_pow (Nat.lt_of_lt_of_le hw (Nat.pow_le_pow_right (by omega) (by omega))))
/-- sums of longs stay small -/
theorem qt_ad {a x : Int64} {k M : Int} (ha : -(k * M) ≤ a.toInt ∧ a.toInt ≤ k * M) (hx : -M ≤ x.toInt ∧ x.toInt ≤ M) (hk : (k + 1) * M ≤ 4000000000000000000) : -((k + 1) * M) ≤ (a + x).toInt ∧ (a + x).toInt ≤ (k + 1) * M := by
  have e : (k + 1) * M = k * M + M := by rw [Int.add_mul, Int.one_mul]
  rw [Int64.toInt_add, Int.bmod_eq_of_le (by omega) (by omega)]
  omega
theorem qt_ml {p q : Nat} {d : Int64} (hp : p ≤ 5040) (hq : q ≤ 5040) (hd : -6 ≤ d.toInt ∧ d.toInt ≤ 6) : -152409600 ≤ ((nL p * nL q) * d).toInt ∧ ((nL p * nL q) * d).toInt ≤ 152409600 := by
  have h1 : p * q ≤ 5040 * 5040 := Nat.mul_le_mul hp hq
  rw [nL_m, Int64.toInt_mul, nL_i (by omega)]
  generalize p * q = r at h1
  have h2 : (((r : Int) * d.toInt).natAbs) ≤ 25401600 * 6 := by
    rw [Int.natAbs_mul]
    exact Nat.mul_le_mul (by omega) (by omega)
  rw [Int.bmod_eq_of_le (by omega) (by omega)]
  omega
section QT
variable {n t : Nat} {x s : Nat → Nat} {T : Nat → Nat → Nat} {o b : Nat → Nat} {σ τ : qa_S} {N : Nat}
/-- how many tell a glass of some casks from water -/
def qt_J (n t : Nat) (s : Nat → Nat) (T : Nat → Nat → Nat) (o b : Nat → Nat) (w : Nat) : Nat := qs_ct (fun i => qs_ap (o i) (b i) (qs_mx n (fun c => if w.testBit c then s c else 0) T 0) (fun _ => 0)) t
theorem qt_105 {w : Nat} (hN : 10 ≤ N) (hB : qv_B n t s T o b) (hC : qv_C n t s T o b σ) (hz : ∀ m, m < 4 → σ 96 m = 0) (hw : w < 128) : (ma_105_3 N (nI w) σ).1 = nI (qt_J n t s T o b w) ∧ qb_F (fun a _ => a = 95) σ (ma_105_3 N (nI w) σ).2 := by
  have n7 := hB.1
  obtain ⟨h1, F1⟩ := qs_47 (N := N) (S0 := nI w) (w := 0) (a4 := 95) (l1 := 7) (e := fun c => w.testBit c) (s1 := s) hN hB hC (by omega) (Or.inr rfl) (Or.inl rfl) (fun c hc => ⟨hC.2.2.1 c (by omega), by have := hB.2.2.1 c (by omega); omega⟩) (fun c hc => qs_48 w hw c (by omega))
  have C1 := qv_CF F1 (fun a j h c => by omega) hC n7
  unfold ma_105_3
  dsimp only [qa_in]
  have F1' : qb_F (fun a _ => a = 95) σ (ma_47_4 N 7 (nI w) 0 95 σ) := F1
  refine ⟨?_, F1'⟩
  have h2 := qs_99 (N := N) (l2 := 95) (l3 := 96) (x := qs_mx n (fun c => if w.testBit c then s c else 0) T 0) (y := fun _ => 0) hN hB C1 (fun m hm => ⟨h1 m hm, by have := qs_mx99 (n := n) (w := 0) (m := m) (s := fun c => if w.testBit c then s c else 0) (fun c hc => hB.2.2.2.1 c m hc hm); omega⟩) (fun m hm => ⟨(F1 96 m (by omega)).trans (hz m hm), by omega⟩)
  exact h2
theorem qt_222 {w : Nat} (hN : 10 ≤ N) (hB : qv_B n t s T o b) (hR : qv_R n t s T o b τ) (hw : w < 128) : (ma_222_99 N (nI w) τ).1 = nI (qt_J n t s T o b w) ∧ qb_F (fun a _ => a = 110 ∨ a = 111) τ (ma_222_99 N (nI w) τ).2 := by
  have n7 := hB.1
  have t6 := hB.2.1
  unfold ma_222_99
  dsimp only [qa_in]
  have A : (fun (μ : qa_S) => (∀ c, c < n → μ 110 c = nI (if w.testBit c then s c else 0)) ∧ qb_F (fun a _ => a = 110) τ μ) (qa_wh (fun s => s) (mc_222_99_p2 N (nI w)) N ((0 : Int32), τ)).2 := by
    refine qb_l0 (fun (k : Nat) (q : Int32 × qa_S) => q.1 = nI k ∧ (∀ c, c < k → q.2 110 c = nI (if w.testBit c then s c else 0)) ∧ qb_F (fun a _ => a = 110) τ q.2) (fun (q : Int32 × qa_S) => (∀ c, c < n → q.2 110 c = nI (if w.testBit c then s c else 0)) ∧ qb_F (fun a _ => a = 110) τ q.2) n (by omega) ⟨rfl, fun c hc => by omega, qb_Fr⟩ ?_ ?_
    · rintro k ⟨q1, q2⟩ hk ⟨g1, g2, g3⟩
      dsimp only at g1 g2 g3
      subst g1
      have R1 := qv_RF g3 (fun a j h c => by omega) hR
      unfold mc_222_99_p2
      dsimp only [qa_in]
      rw [if_pos (qw_ltT R1.1 hk (by omega)), qb_n (k := k) (by omega), R1.2.2.1 k (by omega), qb_s]
      refine ⟨_, rfl, rfl, fun c hc => ?_, fun a i ha => ?_⟩
      · dsimp only
        rw [qb_uJ]
        by_cases e : c = k
        · rw [if_pos e, e, qs_185 w hw k (by omega)]
          cases w.testBit k <;> rfl
        · rw [if_neg e]; exact g2 c (by omega)
      · dsimp only
        rw [qb_uA ha]; exact g3 a i ha
    · rintro ⟨q1, q2⟩ ⟨g1, g2, g3⟩
      dsimp only at g1 g2 g3
      subst g1
      have R1 := qv_RF g3 (fun a j h c => by omega) hR
      unfold mc_222_99_p2
      dsimp only
      rw [if_neg (qw_ltF R1.1 (by omega))]
      exact ⟨_, rfl, g2, g3⟩
  obtain ⟨μ, eμ⟩ : ∃ μ, μ = (qa_wh (fun s => s) (mc_222_99_p2 N (nI w)) N ((0 : Int32), τ)).2 := ⟨_, rfl⟩
  rw [← eμ] at A ⊢
  obtain ⟨A1, A2⟩ := A
  have R1 := qv_RF A2 (fun a j h c => by omega) hR
  obtain ⟨c1, c2⟩ := qs_183 (N := N) (r := fun c => if w.testBit c then s c else 0) hN hB R1 (fun c hc => ⟨A1 c hc, by have := hB.2.2.1 c (by omega); split <;> omega⟩)
  have R2 := qv_RF c2 (fun a j h c => by omega) R1
  obtain ⟨ν, eν⟩ : ∃ ν, ν = ma_183_99 N μ := ⟨_, rfl⟩
  rw [← eν] at c1 c2 R2 ⊢
  refine ⟨?_, qb_Ft A2 c2 (fun a j h => Or.inl h) (fun a j h => Or.inr h)⟩
  refine congrArg Prod.snd (qw_lp (e := fun s => s) (step := mc_222_99_p48 N ν) (fun k (a : Nat) => (nI k, nI a)) (fun a => (nI t, nI a)) (fun i a => if qs_ap (o i) (b i) (qs_mx n (fun c => if w.testBit c then s c else 0) T 0) (fun _ => 0) then a + 1 else a) t 0 (by omega) (fun i a hi => ?_) (fun a => ?_))
  · obtain ⟨o15, b9⟩ := hB.2.2.2.2 i (by omega)
    have Z : qa_wh (fun s => s) (mc_222_99_p62 N (nI a) (nI i) ν) N ((0 : Int32), (0 : Int32)) = (nI 4, if qs_ap (o i) (b i) (qs_mx n (fun c => if w.testBit c then s c else 0) T 0) (fun _ => 0) then 1 else 0) := by
      refine qw_lp (e := fun s => s) (fun j (a : Bool) => (nI j, if a then (1 : Int32) else 0)) (fun a => (nI 4, if a then (1 : Int32) else 0)) (fun m a => a || qs_u (o i) (b i) (qs_mx n (fun c => if w.testBit c then s c else 0) T 0) (fun _ => 0) m) 4 false (by omega) (fun m a hm => ?_) (fun a => ?_)
      · have x9 := qs_mx99 (n := n) (w := 0) (m := m) (s := fun c => if w.testBit c then s c else 0) (fun c hc => hB.2.2.2.1 c m hc hm)
        have tll := qs_tlle (b := b i) (x := qs_mx n (fun c => if w.testBit c then s c else 0) T 0 m)
        have e1 : ma_186_99 (nI i) (ν 111 m) ν = nI (qs_tl (b i) (qs_mx n (fun c => if w.testBit c then s c else 0) T 0 m)) := by
          rw [c1 m hm]
          exact qs_186 (by rw [qb_n (by omega)]; exact (R2.2.2.2.1 i (by omega)).2) (by omega) b9
        have e2 : ma_185 (ν 104 i) (nI m) = if (o i).testBit m then 1 else 0 := by
          rw [(R2.2.2.2.1 i (by omega)).1]
          exact qs_185 (o i) (by omega) m (by omega)
        have t0 : qs_tl (b i) 0 = 0 := by unfold qs_tl; rw [Nat.zero_div, Nat.zero_mul]
        unfold mc_222_99_p62
        dsimp only
        rw [if_pos (show nI m < (4 : Int32) from qb_ltT (b := 4) hm (by omega)), qb_n (k := i) (by omega), qb_n (k := m) (by omega), e1, e2, qb_s]
        unfold qs_u
        dsimp only
        rw [t0]
        cases a
        · by_cases h1 : (o i).testBit m = true
          · by_cases h2 : qs_tl (b i) (qs_mx n (fun c => if w.testBit c then s c else 0) T 0 m) = 0
            · rw [h1, h2]; rfl
            · have h3 : ¬ nI (qs_tl (b i) (qs_mx n (fun c => if w.testBit c then s c else 0) T 0 m)) = 0 := fun c => h2 ((qw_z (by omega)).mp c)
              rw [h1, if_neg h3, beq_eq_false_iff_ne.mpr h2]; rfl
          · rw [Bool.eq_false_iff.mpr h1]; rfl
        · rfl
      · unfold mc_222_99_p62
        dsimp only
        rw [if_neg (show ¬ nI 4 < (4 : Int32) by decide)]
    unfold mc_222_99_p48
    dsimp only [qa_in]
    rw [if_pos (qw_ltT R2.2.1 hi (by omega)), Z, qb_s]
    cases qs_ap (o i) (b i) (qs_mx n (fun c => if w.testBit c then s c else 0) T 0) (fun _ => 0)
    · exact congrArg Sum.inl (Prod.ext rfl (Int32.add_zero _))
    · exact congrArg Sum.inl (Prod.ext rfl qb_s)
  · unfold mc_222_99_p48
    dsimp only
    rw [if_neg (qw_ltF R2.2.1 (by omega))]
theorem qt_215 (hN : 20 ≤ N) : ∀ k, k ≤ 7 → ma_215 N (nI k) = nI (qt_fa k) := by
  intro k hk
  unfold ma_215
  dsimp only [qa_in]
  have e : ∀ k, k < 8 → qw_f (fun j a => a * (2 + j)) (k - 1) 1 = qt_fa k := by decide
  rw [← e k (by omega)]
  refine congrArg Prod.snd (qw_lp (e := fun s => s) (fun j (a : Nat) => (nI (2 + j), nI a)) (fun a => (nI (2 + (k - 1)), nI a)) (fun j a => a * (2 + j)) (k - 1) 1 (by omega) (fun j a hj => ?_) (fun a => ?_))
  · unfold mc_215_p4
    dsimp only
    rw [if_neg (qb_ltF (show 2 + j ≤ k by omega) (by omega)), qb_s, qw_mul]
    rfl
  · unfold mc_215_p4
    dsimp only
    rw [if_pos (qb_ltT (show k < 2 + (k - 1) by omega) (by omega))]
theorem qc_103 {xx yy : Prop} (hN : 5000 ≤ N) (hI : qb_I xx yy σ) (hf : σ 2 0 = 1 ∧ σ 2 1 = 1 ∧ σ 2 2 = 2 ∧ σ 2 3 = 6 ∧ σ 2 4 = 24 ∧ σ 2 5 = 120 ∧ σ 2 6 = 720 ∧ σ 2 7 = 5040) (hz : ∀ m, m < 4 → σ 96 m = 0) (x1 x2 : Int32) : (ma_103_3 N x1 x2 σ).1 = (ma_221_99 N x1 x2 (ma_103_3 N x1 x2 σ).2).1 := by
  obtain ⟨n, t, s, T, o, b, B, C, P⟩ := qv_get hI
  have F : qb_F qb_sm2 σ (ma_103_3 N x1 x2 σ).2 := mf_103_3 qb_hw (qb_hm (by omega)) qb_Fr
  suffices h : ∃ v, (ma_103_3 N x1 x2 σ).1 = v ∧ ∀ τ, qv_P n t s T o b (qa_u τ 99 9 0) → (ma_221_99 N x1 x2 τ).1 = v by
    obtain ⟨v, h1, h2⟩ := h
    exact h1.trans (h2 _ (qv_P2 F P)).symm
  have n7 := B.1
  have t6 := B.2.1
  have p2 := Nat.two_pow_pos n
  have n128 : 2 ^ n ≤ 128 := Nat.le_trans (Nat.pow_le_pow_right (by omega) n7) (by decide : 2 ^ 7 ≤ 128)
  have m1 : (-1 : Int32) < 0 := by decide
  have m2 : (-2 : Int32) < 0 := by decide
  have m3 : (-3 : Int32) < 0 := by decide
  have fac : ∀ j, j < 8 → σ 2 j = nI (qt_fa j) := fun j hj => by
    obtain ⟨f0, f1, f2, f3, f4, f5, f6, f7⟩ := hf
    rcases (show j = 0 ∨ j = 1 ∨ j = 2 ∨ j = 3 ∨ j = 4 ∨ j = 5 ∨ j = 6 ∨ j = 7 by omega) with e | e | e | e | e | e | e | e <;> subst e <;> assumption
  unfold ma_103_3 ma_221_99 ma_81_3
  dsimp only [qa_in]
  rcases qw_c n7 x1 with ⟨h1, h2⟩ | ⟨c, hc, rfl, h1, h2⟩
  · rw [if_pos (h1 σ C.1), qb_9_1]
    exact ⟨_, rfl, fun τ hP => by rw [if_pos (h2 _ hP.1), if_neg (show ¬ (-1 : Int32) = 0 by decide), if_pos m1]; rfl⟩
  rw [if_neg (h1 σ C.1)]
  rcases qb_201 (x2 := x2) with ⟨w1, w2⟩ | ⟨w1, w2⟩
  · rw [if_pos w1, qb_9_2]
    exact ⟨_, rfl, fun τ hP => by rw [if_neg (h2 _ hP.1), w2, if_neg (show ¬ (-2 : Int32) = 0 by decide), if_pos m2]; rfl⟩
  rw [if_neg w1, qb_n (k := c) (by omega)]
  have hp : x2 = 0 ∨ x2 = 1 := by
    rcases qw_w x2 with ⟨w3, -, -⟩ | ⟨w3, -, -⟩
    · exact absurd w3 w1
    · exact w3
  have s9 := B.2.2.1 c (by omega)
  have sC : (σ 7 c = 0) ↔ s c = 0 := by rw [C.2.2.1 c (by omega)]; exact qw_z (by omega)
  have sP : ∀ τ : qa_S, qv_P n t s T o b τ → ((τ 103 c = 0) ↔ s c = 0) := fun τ hP => by rw [hP.2.2.1 c (by omega)]; exact qw_z (by omega)
  by_cases zs : s c = 0
  · rw [if_pos (sC.mpr zs), qb_9_3]
    exact ⟨_, rfl, fun τ hP => by rw [if_neg (h2 _ hP.1), w2, if_pos rfl, if_pos ((sP _ hP).mpr zs), if_pos m3]; rfl⟩
  rw [if_neg (fun h => zs (sC.mp h))]
  -- the casks with a share
  obtain ⟨pW, epW⟩ : ∃ pW : Nat → Bool, pW = fun k => decide (0 < s k) := ⟨_, rfl⟩
  obtain ⟨pO, epO⟩ : ∃ pO : Nat → Bool, pO = fun k => pW k && !decide (c = k) := ⟨_, rfl⟩
  have pWc : pW c = true := by rw [epW]; exact decide_eq_true (by omega)
  have ctW : qs_ct pW n = qs_ct pO n + 1 := by
    have := qt_ct1 pWc n
    rw [if_pos hc] at this
    rw [this, epO]
  have ctOl : qs_ct pO n ≤ 6 := by
    have : qs_ct pW n ≤ n := qs_ctl
    omega
  have W1 : ma_104_3 N σ = nI (qs_en pW n) := by
    unfold ma_104_3
    dsimp only [qa_in]
    rw [← qs_ebn n (by omega)]
    refine congrArg Prod.snd (qw_lp (e := fun s => s) (fun k (a : Int32) => (nI k, a)) (fun a => (nI n, a)) (fun k a => if pW k then a ||| ((1 : Int32) <<< (nI k &&& 31)) else a) n 0 (by omega) (fun k a hk => ?_) (fun a => ?_))
    · have sk := C.2.2.1 k (by omega)
      have s9 := B.2.2.1 k (by omega)
      have e : (0 < σ 7 k) ↔ pW k = true := by
        rw [sk, epW, decide_eq_true_eq]
        exact qb_lt (a := 0) (by omega) (by omega)
      unfold mc_104_3_p4
      dsimp only
      rw [if_pos (qw_ltT C.1 hk (by omega)), qb_n (k := k) (by omega), qb_s]
      by_cases h : pW k = true
      · rw [if_pos (e.mpr h), if_pos h]
      · rw [if_neg (fun c => h (e.mp c)), if_neg h]
    · unfold mc_104_3_p4
      dsimp only
      rw [if_neg (qw_ltF C.1 (by omega))]
  rw [W1, qw_sh c (by omega), qt_but n7 hc, ← epO, qs_pop (by omega)]
  -- one summand
  obtain ⟨E, eE⟩ : ∃ E : Nat → Bool, E = fun w => qs_all (fun k => !w.testBit k || pO k) n := ⟨_, rfl⟩
  have Ect : ∀ w, w < 2 ^ n → E w = true → qs_ct (fun k => w.testBit k) 7 ≤ qs_ct pO n := fun w hw h => by
    rw [qt_ct7 n7 hw]
    rw [eE] at h
    have h := (qs_allT n).mp h
    exact qt_ctm (fun k hk hb => by
      have := h k hk
      try dsimp only at hb
      rw [hb] at this
      exact this)
  obtain ⟨G, eG⟩ : ∃ G : Nat → Int64 → Int64, G = fun w a => if E w then a + ((nL (qt_fa (qs_ct (fun k => w.testBit k) 7)) * nL (qt_fa (qs_ct pO n - qs_ct (fun k => w.testBit k) 7))) * (nI (qt_J n t s T o b (w ||| 2 ^ c)) - nI (qt_J n t s T o b w)).toInt64) else a := ⟨_, rfl⟩
  have Jl : ∀ w, qt_J n t s T o b w ≤ 6 := fun w => by
    have : qt_J n t s T o b w ≤ t := qs_ctl
    omega
  have dl : ∀ a b : Nat, a ≤ 6 → b ≤ 6 → -6 ≤ ((nI a - nI b).toInt64).toInt ∧ ((nI a - nI b).toInt64).toInt ≤ 6 := fun a b ha hb => by
    rw [Int32.toInt_toInt64, Int32.toInt_sub, nI_toInt (by omega), nI_toInt (by omega), q53_b32 (by omega) (by omega)]
    omega
  have Gl : -(((2 ^ n : Nat) : Int) * 152409600) ≤ (qw_f G (2 ^ n) 0).toInt ∧ (qw_f G (2 ^ n) 0).toInt ≤ ((2 ^ n : Nat) : Int) * 152409600 := qw_fI (F := G) (a := 0) (fun k a => -((k : Int) * 152409600) ≤ a.toInt ∧ a.toInt ≤ (k : Int) * 152409600) (by decide) (n := 2 ^ n) (fun w a hw ha => by
    have ct := Ect w hw
    have l7 : qs_ct (fun k => w.testBit k) 7 ≤ 7 := qs_ctl
    have h := qt_ad ha (qt_ml (qt_fal (qs_ct (fun k => w.testBit k) 7) (by omega)).2 (qt_fal (qs_ct pO n - qs_ct (fun k => w.testBit k) 7) (by omega)).2 (dl (qt_J n t s T o b (w ||| 2 ^ c)) (qt_J n t s T o b w) (Jl _) (Jl _))) (by omega)
    rw [eG]
    dsimp only
    split
    · have e : (((w + 1 : Nat) : Int)) = (w : Int) + 1 := rfl
      rw [e]; exact h
    · have e : (((w + 1 : Nat) : Int)) = (w : Int) + 1 := rfl
      rw [e]
      omega)
  have wor : ∀ w, w < 2 ^ n → w ||| 2 ^ c < 128 := fun w hw => by
    have : w ||| 2 ^ c < 2 ^ n := Nat.or_lt_two_pow hw (Nat.pow_lt_pow_right (by omega) hc)
    omega
  obtain ⟨m, e1, e2⟩ := qw_lm (e := fun s => s) (step := mc_103_3_p73 N (nI c) x2 (nI (qs_en pO n)) (nI (qs_ct pO n))) (N := N) (fun m => qb_F (fun a _ => a = 95) σ m) (fun k (a : Int64) m => (nI k, a, m)) (fun a m => (nI (2 ^ n), a, m)) G (2 ^ n) 0 σ (by omega) qb_Fr (fun w a m hw hm => by
    have C1 := qv_CF hm (fun a j h c => by omega) C n7
    have l7 : qs_ct (fun k => w.testBit k) 7 ≤ 7 := qs_ctl
    obtain ⟨j1, F1⟩ := qt_105 (N := N) (w := w ||| 2 ^ c) (by omega) B C1 (fun m' hm' => (hm 96 m' (by omega)).trans (hz m' hm')) (wor w hw)
    obtain ⟨r1, er1⟩ : ∃ r, r = ma_105_3 N (nI (w ||| 2 ^ c)) m := ⟨_, rfl⟩
    rw [← er1] at j1 F1
    have F1b := qb_Ft hm F1 (fun a j h => h) (fun a j h => h)
    obtain ⟨j2, F2⟩ := qt_105 (N := N) (w := w) (by omega) B (qv_CF F1b (fun a j h c => by omega) C n7) (fun m' hm' => (F1b 96 m' (by omega)).trans (hz m' hm')) (by omega)
    obtain ⟨r2, er2⟩ : ∃ r, r = ma_105_3 N (nI w) r1.2 := ⟨_, rfl⟩
    rw [← er2] at j2 F2
    have sE : (nI w &&& (nI (qs_en pO n) ^^^ (-1 : Int32)) = 0) ↔ E w = true := by rw [eE]; exact qt_sub n7 hw
    refine ⟨if E w then r2.2 else m, ?_, ?_⟩
    · unfold mc_103_3_p73
      dsimp only [qa_in]
      rw [if_pos (show nI w < (1 : Int32) <<< (m 4 0 &&& 31) by rw [C1.1, qw_sh n (by omega)]; exact qb_ltT hw (by omega)), qw_sh c (by omega), qw_or, ← er1, ← er2, qb_s, eG]
      dsimp only
      by_cases h : E w = true
      · have ct := Ect w hw h
        rw [if_pos (sE.mpr h), if_pos (sE.mpr h), if_pos h, if_pos h, qs_63 w (by omega), qw_sub ct, qb_n (by omega), qb_n (by omega), hm 2 _ (by omega), hm 2 _ (by omega), fac _ (by omega), fac _ (by omega), j1, j2]
        have q1 := (qt_fal (qs_ct (fun k => w.testBit k) 7) (by omega)).2
        have q2 := (qt_fal (qs_ct pO n - qs_ct (fun k => w.testBit k) 7) (by omega)).2
        rw [nL_I (by omega), nL_I (by omega)]
      · rw [if_neg (fun c => h (sE.mp c)), if_neg (fun c => h (sE.mp c)), if_neg h, if_neg h]
    · split
      · exact qb_Ft F1b F2 (fun a j h => h) (fun a j h => h)
      · exact hm) (fun a m hm => by
    unfold mc_103_3_p73
    dsimp only [qa_in]
    rw [if_neg (show ¬ nI (2 ^ n) < (1 : Int32) <<< (m 4 0 &&& 31) by rw [hm 4 0 (by omega), C.1, qw_sh n (by omega)]; exact qb_ltF (Nat.le_refl _) (by omega))]
    exact ⟨_, rfl, hm⟩)
  have e1' : qa_wh (fun s => s) (mc_103_3_p73 N (nI c) x2 (nI (qs_en pO n)) (nI (qs_ct pO n))) N ((0 : Int32), (0 : Int64), σ) = _ := e1
  rw [e1']
  dsimp only
  have fb := qt_fal (qs_ct pO n + 1) (by omega)
  rw [qb_s, qb_n (by omega), e2 2 _ (by omega), fac _ (by omega), nL_I (by omega), qt_fr hN (by omega) (by omega) (by omega) hp]
  refine ⟨_, rfl, fun τ hP => ?_⟩
  rw [if_neg (h2 _ hP.1), w2, if_pos rfl, if_neg (fun h => zs ((sP _ hP).mp h)), if_neg (show ¬ (0 : Int32) < 0 by decide)]
  have R := (qv_181 (N := N) (by omega) n7 hP).1
  obtain ⟨ρ, eρ⟩ : ∃ ρ, ρ = ma_181_99 N (qa_u τ 99 9 0) := ⟨_, rfl⟩
  rw [← eρ] at R ⊢
  have W2 : qa_wh (fun s => s) (mc_221_99_p69 N (nI c) x2 ρ) N ((0 : Int32), (0 : Int32)) = (nI n, nI (qs_en pW n)) := by
    rw [← qs_ebn n (by omega)]
    refine qw_lp (e := fun s => s) (fun k (a : Int32) => (nI k, a)) (fun a => (nI n, a)) (fun k a => if pW k then a ||| ((1 : Int32) <<< (nI k &&& 31)) else a) n 0 (by omega) (fun k a hk => ?_) (fun a => ?_)
    · have sk := R.2.2.1 k (by omega)
      have s9 := B.2.2.1 k (by omega)
      have e : (0 < ρ 103 k) ↔ pW k = true := by
        rw [sk, epW, decide_eq_true_eq]
        exact qb_lt (a := 0) (by omega) (by omega)
      unfold mc_221_99_p69
      dsimp only
      rw [if_pos (qw_ltT R.1 hk (by omega)), qb_n (k := k) (by omega), qb_s]
      by_cases h : pW k = true
      · rw [if_pos (e.mpr h), if_pos h]
      · rw [if_neg (fun c => h (e.mp c)), if_neg h]
        exact congrArg (fun z => Sum.inl (nI (k + 1), z)) Int32.or_zero
    · unfold mc_221_99_p69
      dsimp only
      rw [if_neg (qw_ltF R.1 (by omega))]
  rw [W2]
  dsimp only
  rw [qs_208e (by omega) n7, ctW]
  obtain ⟨m', d1, -⟩ := qw_lm (e := fun s => s) (step := mc_221_99_p120 N (nI c) x2 (nI (qs_en pW n)) (nI (qs_ct pO n + 1))) (N := N) (fun m => qv_R n t s T o b m) (fun k (a : Int64) m => (nI k, a, m)) (fun a m => (nI (2 ^ n), a, m)) G (2 ^ n) 0 ρ (by omega) R (fun w a m hw hm => by
    have l7 : qs_ct (fun k => w.testBit k) 7 ≤ 7 := qs_ctl
    obtain ⟨j1, F1⟩ := qt_222 (N := N) (w := w ||| 2 ^ c) (by omega) B hm (wor w hw)
    obtain ⟨r1, er1⟩ : ∃ r, r = ma_222_99 N (nI (w ||| 2 ^ c)) m := ⟨_, rfl⟩
    rw [← er1] at j1 F1
    have R1 := qv_RF F1 (fun a j h c => by omega) hm
    obtain ⟨j2, F2⟩ := qt_222 (N := N) (w := w) (by omega) B R1 (by omega)
    obtain ⟨r2, er2⟩ : ∃ r, r = ma_222_99 N (nI w) r1.2 := ⟨_, rfl⟩
    rw [← er2] at j2 F2
    have R2 := qv_RF F2 (fun a j h c => by omega) R1
    have sW : (nI w &&& (nI (qs_en pW n) ^^^ (-1 : Int32)) = 0) ↔ qs_all (fun k => !w.testBit k || pW k) n = true := qt_sub n7 hw
    have bC : (ma_185 (nI w) (nI c) = 0) ↔ w.testBit c = false := by rw [qs_185 w (by omega) c (by omega)]; exact qs_bz
    have both : E w = true ↔ (qs_all (fun k => !w.testBit k || pW k) n = true ∧ w.testBit c = false) := by
      rw [eE, qs_allT, qs_allT]
      constructor
      · intro h
        refine ⟨fun k hk => ?_, ?_⟩
        · have := h k hk
          rw [epO] at this
          dsimp only at this
          cases h1 : w.testBit k
          · rfl
          · rw [h1] at this
            cases h2 : pW k
            · rw [h2] at this; cases this
            · rfl
        · have := h c hc
          rw [epO] at this
          dsimp only at this
          rw [decide_eq_true rfl, Bool.not_true, Bool.and_false, Bool.or_false] at this
          cases h1 : w.testBit c
          · rfl
          · rw [h1] at this; cases this
      · intro h k hk
        have := h.1 k hk
        rw [epO]
        dsimp only
        by_cases e : c = k
        · subst e; rw [h.2]; rfl
        · rw [decide_eq_false e, Bool.not_false, Bool.and_true]; exact this
    refine ⟨if E w then r2.2 else m, ?_, ?_⟩
    · unfold mc_221_99_p120
      dsimp only [qa_in]
      rw [if_pos (show nI w < (1 : Int32) <<< (m 99 0 &&& 31) by rw [hm.1, qw_sh n (by omega)]; exact qb_ltT hw (by omega)), qw_sh c (by omega), qw_or, ← er1, ← er2, qb_s, eG]
      dsimp only
      by_cases h : E w = true
      · have ct := Ect w hw h
        obtain ⟨b1, b2⟩ := both.mp h
        have e6 : nI (qs_ct pO n + 1) - 1 = nI (qs_ct pO n) := by rw [show (1 : Int32) = nI 1 from rfl, qw_sub (by omega)]; exact congrArg nI (by omega)
        rw [if_pos (sW.mpr b1), if_pos (sW.mpr b1), if_pos (bC.mpr b2), if_pos (bC.mpr b2), if_pos h, if_pos h, qs_208 (by omega) (show w < 128 by omega), e6, qw_sub ct, qt_215 (by omega) _ (by omega), qt_215 (by omega) _ (by omega), j1, j2]
        have q1 := (qt_fal (qs_ct (fun k => w.testBit k) 7) (by omega)).2
        have q2 := (qt_fal (qs_ct pO n - qs_ct (fun k => w.testBit k) 7) (by omega)).2
        rw [nL_I (by omega), nL_I (by omega)]
        refine congrArg (fun z => Sum.inl (nI (w + 1), a + z, r2.2)) ?_
        rw [Int64.mul_comm ((nL _) * (nL _)) _, Int64.mul_assoc]
      · by_cases b1 : qs_all (fun k => !w.testBit k || pW k) n = true
        · have b2 : ¬ w.testBit c = false := fun b2 => h (both.mpr ⟨b1, b2⟩)
          rw [if_pos (sW.mpr b1), if_pos (sW.mpr b1), if_neg (fun z => b2 (bC.mp z)), if_neg (fun z => b2 (bC.mp z)), if_neg h, if_neg h]
        · rw [if_neg (fun z => b1 (sW.mp z)), if_neg (fun z => b1 (sW.mp z)), if_neg h, if_neg h]
    · split
      · exact R2
      · exact hm) (fun a m hm => by
    unfold mc_221_99_p120
    dsimp only [qa_in]
    rw [if_neg (show ¬ nI (2 ^ n) < (1 : Int32) <<< (m 99 0 &&& 31) by rw [hm.1, qw_sh n (by omega)]; exact qb_ltF (Nat.le_refl _) (by omega))]
    exact ⟨_, rfl, hm⟩)
  have d1' : qa_wh (fun s => s) (mc_221_99_p120 N (nI c) x2 (nI (qs_en pW n)) (nI (qs_ct pO n + 1))) N ((0 : Int32), (0 : Int64), ρ) = _ := d1
  rw [d1']
  dsimp only
  rw [qt_215 (by omega) _ (by omega), nL_I (by omega)]
end QT
