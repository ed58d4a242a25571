/-! WHO TELLS ALIKE; loner, like -/
theorem qw_ltT {x : Int32} {k n : Nat} (h : x = nI n) (hk : k < n) (hn : n < 2147483648) : nI k < x := by rw [h]; exact qb_ltT hk hn
theorem qw_ltF {x : Int32} {n : Nat} (h : x = nI n) (hn : n < 2147483648) : ¬ nI n < x := by rw [h]; exact qb_ltF (Nat.le_refl n) hn
/-- bits gathered -/
def qs_eb (p : Nat → Bool) (n : Nat) : Int32 := qw_f (fun k a => if p k then a ||| ((1 : Int32) <<< (nI k &&& 31)) else a) n 0
theorem qs_ebn {p : Nat → Bool} : ∀ n, n ≤ 31 → qs_eb p n = nI (qs_en p n) := by
  intro n
  induction n with
  | zero => intro _; rfl
  | succ n ih =>
    intro h
    show (if p n then qs_eb p n ||| ((1 : Int32) <<< (nI n &&& 31)) else qs_eb p n) = nI (if p n then qs_en p n + 2 ^ n else qs_en p n)
    rw [ih (by omega), qs_eno (by omega)]
    cases p n <;> rfl
section Q7
variable {n t : Nat} {s : Nat → Nat} {T : Nat → Nat → Nat} {o b : Nat → Nat} {σ τ : qa_S} {N : Nat}
theorem qs_197 {x y : Nat → Nat} (hN : 10 ≤ N) (hB : qv_B n t s T o b) (hR : qv_R n t s T o b τ) (hx : ∀ m, m < 4 → τ 109 m = nI (x m) ∧ x m < 1000000) (hy : ∀ m, m < 4 → τ 111 m = nI (y m) ∧ y m < 1000000) : ma_197_99 N τ = nI (qs_en (fun i => !qs_ap (o i) (b i) x y) t) := by
  have t6 := hB.2.1
  unfold ma_197_99
  dsimp only [qa_in]
  rw [← qs_ebn t (by omega)]
  refine congrArg Prod.snd (qw_lp (e := fun s => s) (fun k (a : Int32) => (nI k, a)) (fun a => (nI t, a)) (fun k a => if !qs_ap (o k) (b k) x y then a ||| ((1 : Int32) <<< (nI k &&& 31)) else a) t 0 (by omega) (fun k a hk => ?_) (fun a => ?_))
  · unfold mc_197_99_p4
    dsimp only [qa_in]
    rw [hR.2.1, if_pos (qb_ltT hk (by omega)), qs_198 (by omega) hB hR (by omega) hx hy, qb_s]
    cases qs_ap (o k) (b k) x y
    · rfl
    · exact congrArg (fun z => Sum.inl (nI (k + 1), z)) Int32.or_zero
  · unfold mc_197_99_p4
    dsimp only
    rw [hR.2.1, if_neg (qb_ltF (Nat.le_refl t) (by omega))]
theorem qs_190 (hB : qv_B n t s T o b) (hR : τ 99 5 = nI t) : ma_190_99 τ = nI (qs_en (fun _ => true) t) := by
  unfold ma_190_99
  rw [hR, qs_ev t (by have := hB.2.1; omega), qs_en1]
theorem qc_121 {xx yy : Prop} (hN : 5000 ≤ N) (hI : qb_I xx yy σ) : (ma_121_3 N σ).1 = (ma_233_99 N (ma_121_3 N σ).2).1 := by
  obtain ⟨n, t, s, T, o, b, B, C, P⟩ := qv_get hI
  have F : qb_F qb_sm2 σ (ma_121_3 N σ).2 := mf_121_3 qb_hw (qb_hm (by omega)) qb_Fr
  have P2 := qv_P2 F P
  obtain ⟨τ, eτ⟩ : ∃ τ, τ = (ma_121_3 N σ).2 := ⟨_, rfl⟩
  rw [← eτ] at P2 ⊢
  have n7 := B.1
  have t6 := B.2.1
  have A : (ma_121_3 N σ).1 = qs_eb (fun c => qs_ct (fun i => qs_ap (o i) (b i) (qs_gl n s T) (T c)) t == 0) n := by
    obtain ⟨h1, F1⟩ := qs_46 (N := N) (by omega) B C
    have C1 := qv_CF F1 (fun a j h c => by omega) C n7
    unfold ma_121_3
    dsimp only [qa_in]
    refine congrArg Prod.snd (qw_lp (e := fun s => s) (fun k (a : Int32) => (nI k, a)) (fun a => (nI n, a)) (fun c a => if qs_ct (fun i => qs_ap (o i) (b i) (qs_gl n s T) (T c)) t == 0 then a ||| ((1 : Int32) <<< (nI c &&& 31)) else a) n 0 (by omega) (fun c a hc => ?_) (fun a => ?_))
    · unfold mc_121_3_p8
      dsimp only [qa_in]
      have l := qs_ctl (p := fun i => qs_ap (o i) (b i) (qs_gl n s T) (T c)) (n := t)
      rw [C1.1, if_pos (qb_ltT hc (by omega)), qb_n (k := c) (by omega), qs_99 (x := qs_gl n s T) (y := T c) (by omega) B C1 (fun m hm => ⟨h1 m hm, qs_gll B hm⟩) (fun m hm => ⟨C1.2.2.2.1 c m hc hm, by have := B.2.2.2.1 c m hc hm; omega⟩), qb_s]
      by_cases z : qs_ct (fun i => qs_ap (o i) (b i) (qs_gl n s T) (T c)) t = 0
      · rw [z, if_pos (show nI 0 = 0 from rfl)]; rfl
      · rw [if_neg (fun e => z ((qw_z (by omega)).mp e)), beq_eq_false_iff_ne.mpr z]; rfl
    · unfold mc_121_3_p8
      dsimp only
      rw [C1.1, if_neg (qb_ltF (Nat.le_refl n) (by omega))]
  rw [A]
  obtain ⟨R, r1, r2, -⟩ := qs_180 (N := N) (by omega) B P2
  unfold ma_233_99
  dsimp only [qa_in]
  obtain ⟨ρ, eρ⟩ : ∃ ρ, ρ = ma_180_99 N (qa_u τ 99 9 0) := ⟨_, rfl⟩
  rw [← eρ] at R r1 r2 ⊢
  have key := qw_lm (e := fun s => s) (step := mc_233_99_p13 N) (N := N) (fun m => qv_R n t s T o b m ∧ ∀ j, j < 4 → m 109 j = nI (qs_gl n s T j)) (fun k (a : Int32) m => (nI k, a, m)) (fun a m => (nI n, a, m)) (fun c a => if qs_ct (fun i => qs_ap (o i) (b i) (qs_gl n s T) (T c)) t == 0 then a ||| ((1 : Int32) <<< (nI c &&& 31)) else a) n 0 ρ (by omega) ⟨R, r2⟩ (fun c a m hc hm => ?_) (fun a m hm => ?_)
  · obtain ⟨m', e1, -⟩ := key
    show _ = (qa_wh (fun s => s) (mc_233_99_p13 N) N (nI 0, 0, ρ)).2.1
    rw [e1]
    rfl
  · obtain ⟨Rm, gm⟩ := hm
    unfold mc_233_99_p13
    dsimp only [qa_in]
    rw [if_pos (qw_ltT Rm.1 hc (by omega))]
    obtain ⟨m1, q1, Rq, gq, hq⟩ : ∃ m1, (qa_wh (fun s => s) (mc_233_99_p23 N a (nI c)) N ((0 : Int32), m)).2 = m1 ∧ qv_R n t s T o b m1 ∧ (∀ j, j < 4 → m1 109 j = nI (qs_gl n s T j)) ∧ ∀ j, j < 4 → m1 111 j = nI (T c j) := by
      refine ⟨_, rfl, ?_⟩
      refine qb_l0 (fun (k : Nat) (q : Int32 × qa_S) => q.1 = nI k ∧ qb_F (fun a _ => a = 111) m q.2 ∧ ∀ j, j < k → q.2 111 j = nI (T c j)) (fun (q : Int32 × qa_S) => qv_R n t s T o b q.2 ∧ (∀ j, j < 4 → q.2 109 j = nI (qs_gl n s T j)) ∧ ∀ j, j < 4 → q.2 111 j = nI (T c j)) 4 (by omega) ⟨rfl, qb_Fr, fun j hj => by omega⟩ ?_ ?_
      · rintro k ⟨q1, q2⟩ hk ⟨g1, g2, g3⟩
        dsimp only at g1 g2 g3
        subst g1
        unfold mc_233_99_p23
        dsimp only [qa_in]
        rw [if_pos (show nI k < (4 : Int32) from qb_ltT (b := 4) hk (by omega)), qb_n (k := k) (by omega), qb_i4 c (by omega) k hk, g2 108 _ (by omega), Rm.2.2.2.2 c k hc hk]
        refine ⟨_, rfl, qb_s, fun a j h => (qb_uA h).trans (g2 a j h), fun j hj => ?_⟩
        dsimp only
        rw [qb_uJ]
        by_cases e : j = k
        · rw [if_pos e, e]
        · rw [if_neg e]; exact g3 j (by omega)
      · rintro ⟨q1, q2⟩ ⟨g1, g2, g3⟩
        dsimp only at g1 g2 g3
        subst g1
        unfold mc_233_99_p23
        dsimp only
        rw [if_neg (show ¬ nI 4 < (4 : Int32) by decide)]
        exact ⟨_, rfl, qv_RF g2 (fun a j h c => by omega) Rm, fun j hj => (g2 109 j (by omega)).trans (gm j hj), g3⟩
    rw [q1]
    refine ⟨m1, ?_, Rq, gq⟩
    rw [qs_197 (x := qs_gl n s T) (y := T c) (by omega) B Rq (fun m hm => ⟨gq m hm, qs_gll B hm⟩) (fun m hm => ⟨hq m hm, by have := B.2.2.2.1 c m hc hm; omega⟩), qs_190 B Rq.2.1, qb_s]
    have l1 := qs_enl (p := fun i => !qs_ap (o i) (b i) (qs_gl n s T) (T c)) t
    have l2 := qs_enl (p := fun _ => true) t
    have l3 : 2 ^ t ≤ 2 ^ 6 := Nat.pow_le_pow_right (by omega) t6
    by_cases z : qs_ct (fun i => qs_ap (o i) (b i) (qs_gl n s T) (T c)) t = 0
    · have e : qs_en (fun i => !qs_ap (o i) (b i) (qs_gl n s T) (T c)) t = qs_en (fun _ => true) t := qs_enx (fun k hk => by rw [(qs_ct0 t).mp z k hk]; rfl)
      rw [e, if_pos rfl, z]
      rfl
    · have e : ¬ nI (qs_en (fun i => !qs_ap (o i) (b i) (qs_gl n s T) (T c)) t) = nI (qs_en (fun _ => true) t) := fun e => z ((qs_ct0 t).mpr (fun k hk => by
        have := qs_enj ((qb_eq (by omega) (by omega)).mp e) k hk
        cases h : qs_ap (o k) (b k) (qs_gl n s T) (T c)
        · rfl
        · rw [h] at this; cases this))
      rw [if_neg e, beq_eq_false_iff_ne.mpr z]
      exact congrArg (fun z => Sum.inl (nI (c + 1), z, m1)) Int32.or_zero
  · unfold mc_233_99_p13
    dsimp only
    rw [if_neg (qw_ltF hm.1.1 (by omega))]
    exact ⟨m, rfl, hm⟩
/-! loner -/
end Q7
