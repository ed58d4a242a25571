/-! WHO TELLS ALIKE; loner, like -/
theorem qw_ltT {x : Int32} {k n : Nat} (h : x = nI n) (hk : k < n) (hn : n < 2147483648) : nI k < x := by rw [h]; exact qb_ltT hk hn
theorem qw_ltF {x : Int32} {n : Nat} (h : x = nI n) (hn : n < 2147483648) : ¬ nI n < x := by rw [h]; exact qb_ltF (Nat.le_refl n) hn
theorem qs_cta {p : Nat → Bool} {a : Nat} : ∀ n, qw_f (fun k x => if p k then x + 1 else x) n a = a + qs_ct p n := by
  intro n
  induction n with
  | zero => rfl
  | succ n ih =>
    show (if p n then qw_f (fun k x => if p k then x + 1 else x) n a + 1 else qw_f (fun k x => if p k then x + 1 else x) n a) = a + (if p n then qs_ct p n + 1 else qs_ct p n)
    rw [ih]
    split <;> omega
/-- bits gathered -/
def qs_eb (p : Nat → Bool) (n : Nat) : Int32 := qw_f (fun k a => if p k then a ||| ((1 : Int32) <<< (nI k &&& 31)) else a) n 0
theorem qs_ebn {p : Nat → Bool} : ∀ n, n ≤ 31 → qs_eb p n = nI (qs_en p n) := by
  intro n
  induction n with
  | zero => intro _; rfl
  | succ n ih =>
    intro h
    show (if p n then qs_eb p n ||| ((1 : Int32) <<< (nI n &&& 31)) else qs_eb p n) = nI (if p n then qs_en p n + 2 ^ n else qs_en p n)
    rw [ih (by omega), qs_eno (by omega)]
    cases p n <;> rfl
theorem qs_ebx {p q : Nat → Bool} {n : Nat} (h : ∀ k, k < n → p k = q k) : qs_eb p n = qs_eb q n := qw_fx (fun k x hk => by rw [h k hk])
section Q7
variable {n t : Nat} {s : Nat → Nat} {T : Nat → Nat → Nat} {o b : Nat → Nat} {σ τ : qa_S} {N : Nat}
theorem qs_197 {x y : Nat → Nat} (hN : 10 ≤ N) (hB : qv_B n t s T o b) (hR : qv_R n t s T o b τ) (hx : ∀ m, m < 4 → τ 109 m = nI (x m) ∧ x m < 1000000) (hy : ∀ m, m < 4 → τ 111 m = nI (y m) ∧ y m < 1000000) : ma_197_99 N τ = nI (qs_en (fun i => !qs_ap (o i) (b i) x y) t) := by
  have t6 := hB.2.1
  unfold ma_197_99
  dsimp only [qa_in]
  rw [← qs_ebn t (by omega)]
  refine congrArg Prod.snd (qw_lp (e := fun s => s) (fun k (a : Int32) => (nI k, a)) (fun a => (nI t, a)) (fun k a => if !qs_ap (o k) (b k) x y then a ||| ((1 : Int32) <<< (nI k &&& 31)) else a) t 0 (by omega) (fun k a hk => ?_) (fun a => ?_))
  · unfold mc_197_99_p4
    dsimp only [qa_in]
    rw [hR.2.1, if_pos (qb_ltT hk (by omega)), qs_198 (by omega) hB hR (by omega) hx hy, qb_s]
    cases qs_ap (o k) (b k) x y
    · rfl
    · exact congrArg (fun z => Sum.inl (nI (k + 1), z)) Int32.or_zero
  · unfold mc_197_99_p4
    dsimp only
    rw [hR.2.1, if_neg (qb_ltF (Nat.le_refl t) (by omega))]
/-- how many tell what is tried otherwise -/
theorem qs_218 {x r : Nat → Nat} (hN : 10 ≤ N) (hB : qv_B n t s T o b) (hR : qv_R n t s T o b τ) (hx : ∀ m, m < 4 → τ 109 m = nI (x m) ∧ x m < 1000000) (hr : ∀ c, c < n → τ 110 c = nI (r c) ∧ r c ≤ 99) : (ma_218_99 N τ).1 = nI (qs_ct (fun i => qs_ap (o i) (b i) x (qs_mx n r T 0)) t) ∧ qb_F (fun a _ => a = 111) τ (ma_218_99 N τ).2 := by
  have t6 := hB.2.1
  obtain ⟨h1, F⟩ := qs_183 hN hB hR hr
  have R1 := qv_RF F (fun a j h c => by omega) hR
  unfold ma_218_99
  dsimp only [qa_in]
  have h2 := qs_197 (x := x) (y := qs_mx n r T 0) hN hB R1 (fun m hm => ⟨(F 109 m (by omega)).trans (hx m hm).1, (hx m hm).2⟩) (fun m hm => ⟨h1 m hm, (qs_mxl hB.1 (fun c hc => (hr c hc).2) (fun c hc => hB.2.2.2.1 c m hc hm)).2.2⟩)
  refine ⟨?_, F⟩
  rw [h2, qs_208e hN (by omega), R1.2.1]
  have e := qs_ctn (p := fun i => qs_ap (o i) (b i) x (qs_mx n r T 0)) t
  rw [qw_sub (by omega)]
  exact congrArg nI (by omega)
theorem qs_190 (hB : qv_B n t s T o b) (hR : τ 99 5 = nI t) : ma_190_99 τ = nI (qs_en (fun _ => true) t) := by
  unfold ma_190_99
  rw [hR, qs_ev t (by have := hB.2.1; omega), qs_en1]
theorem qs_60 (hB : qv_B n t s T o b) (hR : σ 4 1 = nI t) : ma_60_3 σ = nI (qs_en (fun _ => true) t) := by
  unfold ma_60_3
  rw [hR, qs_ev t (by have := hB.2.1; omega), qs_en1]
theorem qc_121 {xx yy : Prop} (hN : 5000 ≤ N) (hI : qb_I xx yy σ) : (ma_121_3 N σ).1 = (ma_233_99 N (ma_121_3 N σ).2).1 := by
  obtain ⟨n, t, s, T, o, b, B, C, P⟩ := qv_get hI
  have F : qb_F qb_sm2 σ (ma_121_3 N σ).2 := mf_121_3 qb_hw (qb_hm (by omega)) qb_Fr
  have P2 := qv_P2 F P
  obtain ⟨τ, eτ⟩ : ∃ τ, τ = (ma_121_3 N σ).2 := ⟨_, rfl⟩
  rw [← eτ] at P2 ⊢
  have n7 := B.1
  have t6 := B.2.1
  have A : (ma_121_3 N σ).1 = qs_eb (fun c => qs_ct (fun i => qs_ap (o i) (b i) (qs_gl n s T) (T c)) t == 0) n := by
    obtain ⟨h1, F1⟩ := qs_46 (N := N) (by omega) B C
    have C1 := qv_CF F1 (fun a j h c => by omega) C n7
    unfold ma_121_3
    dsimp only [qa_in]
    refine congrArg Prod.snd (qw_lp (e := fun s => s) (fun k (a : Int32) => (nI k, a)) (fun a => (nI n, a)) (fun c a => if qs_ct (fun i => qs_ap (o i) (b i) (qs_gl n s T) (T c)) t == 0 then a ||| ((1 : Int32) <<< (nI c &&& 31)) else a) n 0 (by omega) (fun c a hc => ?_) (fun a => ?_))
    · unfold mc_121_3_p8
      dsimp only [qa_in]
      have l := qs_ctl (p := fun i => qs_ap (o i) (b i) (qs_gl n s T) (T c)) (n := t)
      rw [C1.1, if_pos (qb_ltT hc (by omega)), qb_n (k := c) (by omega), qs_99 (x := qs_gl n s T) (y := T c) (by omega) B C1 (fun m hm => ⟨h1 m hm, qs_gll B hm⟩) (fun m hm => ⟨C1.2.2.2.1 c m hc hm, by have := B.2.2.2.1 c m hc hm; omega⟩), qb_s]
      by_cases z : qs_ct (fun i => qs_ap (o i) (b i) (qs_gl n s T) (T c)) t = 0
      · rw [z, if_pos (show nI 0 = 0 from rfl)]; rfl
      · rw [if_neg (fun e => z ((qw_z (by omega)).mp e)), beq_eq_false_iff_ne.mpr z]; rfl
    · unfold mc_121_3_p8
      dsimp only
      rw [C1.1, if_neg (qb_ltF (Nat.le_refl n) (by omega))]
  rw [A]
  obtain ⟨R, r1, r2, -⟩ := qs_180 (N := N) (by omega) B P2
  unfold ma_233_99
  dsimp only [qa_in]
  obtain ⟨ρ, eρ⟩ : ∃ ρ, ρ = ma_180_99 N (qa_u τ 99 9 0) := ⟨_, rfl⟩
  rw [← eρ] at R r1 r2 ⊢
  have key := qw_lm (e := fun s => s) (step := mc_233_99_p13 N) (N := N) (fun m => qv_R n t s T o b m ∧ ∀ j, j < 4 → m 109 j = nI (qs_gl n s T j)) (fun k (a : Int32) m => (nI k, a, m)) (fun a m => (nI n, a, m)) (fun c a => if qs_ct (fun i => qs_ap (o i) (b i) (qs_gl n s T) (T c)) t == 0 then a ||| ((1 : Int32) <<< (nI c &&& 31)) else a) n 0 ρ (by omega) ⟨R, r2⟩ (fun c a m hc hm => ?_) (fun a m hm => ?_)
  · obtain ⟨m', e1, -⟩ := key
    show _ = (qa_wh (fun s => s) (mc_233_99_p13 N) N (nI 0, 0, ρ)).2.1
    rw [e1]
    rfl
  · obtain ⟨Rm, gm⟩ := hm
    unfold mc_233_99_p13
    dsimp only [qa_in]
    rw [if_pos (qw_ltT Rm.1 hc (by omega))]
    obtain ⟨m1, q1, Rq, gq, hq⟩ : ∃ m1, (qa_wh (fun s => s) (mc_233_99_p23 N a (nI c)) N ((0 : Int32), m)).2 = m1 ∧ qv_R n t s T o b m1 ∧ (∀ j, j < 4 → m1 109 j = nI (qs_gl n s T j)) ∧ ∀ j, j < 4 → m1 111 j = nI (T c j) := by
      refine ⟨_, rfl, ?_⟩
      refine qb_l0 (fun (k : Nat) (q : Int32 × qa_S) => q.1 = nI k ∧ qb_F (fun a _ => a = 111) m q.2 ∧ ∀ j, j < k → q.2 111 j = nI (T c j)) (fun (q : Int32 × qa_S) => qv_R n t s T o b q.2 ∧ (∀ j, j < 4 → q.2 109 j = nI (qs_gl n s T j)) ∧ ∀ j, j < 4 → q.2 111 j = nI (T c j)) 4 (by omega) ⟨rfl, qb_Fr, fun j hj => by omega⟩ ?_ ?_
      · rintro k ⟨q1, q2⟩ hk ⟨g1, g2, g3⟩
        dsimp only at g1 g2 g3
        subst g1
        unfold mc_233_99_p23
        dsimp only [qa_in]
        rw [if_pos (show nI k < (4 : Int32) from qb_ltT (b := 4) hk (by omega)), qb_n (k := k) (by omega), qb_i4 c (by omega) k hk, g2 108 _ (by omega), Rm.2.2.2.2 c k hc hk]
        refine ⟨_, rfl, qb_s, fun a j h => (qb_uA h).trans (g2 a j h), fun j hj => ?_⟩
        dsimp only
        rw [qb_uJ]
        by_cases e : j = k
        · rw [if_pos e, e]
        · rw [if_neg e]; exact g3 j (by omega)
      · rintro ⟨q1, q2⟩ ⟨g1, g2, g3⟩
        dsimp only at g1 g2 g3
        subst g1
        unfold mc_233_99_p23
        dsimp only
        rw [if_neg (show ¬ nI 4 < (4 : Int32) by decide)]
        exact ⟨_, rfl, qv_RF g2 (fun a j h c => by omega) Rm, fun j hj => (g2 109 j (by omega)).trans (gm j hj), g3⟩
    rw [q1]
    refine ⟨m1, ?_, Rq, gq⟩
    rw [qs_197 (x := qs_gl n s T) (y := T c) (by omega) B Rq (fun m hm => ⟨gq m hm, qs_gll B hm⟩) (fun m hm => ⟨hq m hm, by have := B.2.2.2.1 c m hc hm; omega⟩), qs_190 B Rq.2.1, qb_s]
    have l1 := qs_enl (p := fun i => !qs_ap (o i) (b i) (qs_gl n s T) (T c)) t
    have l2 := qs_enl (p := fun _ => true) t
    have l3 : 2 ^ t ≤ 2 ^ 6 := Nat.pow_le_pow_right (by omega) t6
    by_cases z : qs_ct (fun i => qs_ap (o i) (b i) (qs_gl n s T) (T c)) t = 0
    · have e : qs_en (fun i => !qs_ap (o i) (b i) (qs_gl n s T) (T c)) t = qs_en (fun _ => true) t := qs_enx (fun k hk => by rw [(qs_ct0 t).mp z k hk]; rfl)
      rw [e, if_pos rfl, z]
      rfl
    · have e : ¬ nI (qs_en (fun i => !qs_ap (o i) (b i) (qs_gl n s T) (T c)) t) = nI (qs_en (fun _ => true) t) := fun e => z ((qs_ct0 t).mpr (fun k hk => by
        have := qs_enj ((qb_eq (by omega) (by omega)).mp e) k hk
        cases h : qs_ap (o k) (b k) (qs_gl n s T) (T c)
        · rfl
        · rw [h] at this; cases this))
      rw [if_neg e, beq_eq_false_iff_ne.mpr z]
      exact congrArg (fun z => Sum.inl (nI (c + 1), z, m1)) Int32.or_zero
  · unfold mc_233_99_p13
    dsimp only
    rw [if_neg (qw_ltF hm.1.1 (by omega))]
    exact ⟨m, rfl, hm⟩
/-! loner -/
theorem qw_m1 {x : Int32} (h : -1 < x) : ¬ x < 0 := fun c => by
  rw [Int32.lt_iff_toInt_lt] at h c
  rw [show (-1 : Int32).toInt = -1 by decide] at h
  rw [show (0 : Int32).toInt = 0 by decide] at c
  omega
theorem qc_137 {xx yy : Prop} (hN : 5000 ≤ N) (hI : qb_I xx yy σ) (x1 : Int32) : (ma_137_3 N x1 σ).1 = (ma_245_99 N x1 (ma_137_3 N x1 σ).2).1 := by
  obtain ⟨n, t, s, T, o, b, B, C, P⟩ := qv_get hI
  have F : qb_F qb_sm2 σ (ma_137_3 N x1 σ).2 := mf_137_3 qb_hw (qb_hm (by omega)) qb_Fr
  have P2 := qv_P2 F P
  obtain ⟨τ, eτ⟩ : ∃ τ, τ = (ma_137_3 N x1 σ).2 := ⟨_, rfl⟩
  rw [← eτ] at P2 ⊢
  have n7 := B.1
  have t6 := B.2.1
  unfold ma_137_3 ma_245_99
  dsimp only [qa_in]
  rcases qw_w x1 with ⟨w1, w2, -⟩ | ⟨-, w1, w2⟩
  · rw [if_pos w1, if_pos w2, qb_9_2]; rfl
  rw [if_neg w1, if_neg w2]
  have R := (qv_181 (N := N) (by omega) n7 P2).1
  obtain ⟨ρ, eρ⟩ : ∃ ρ, ρ = ma_181_99 N (qa_u τ 99 9 0) := ⟨_, rfl⟩
  rw [← eρ] at R ⊢
  have cl : ∀ c, c < n → qs_sm (fun k => qs_ct (fun i => qs_ap (o i) (b i) (T c) (T k)) t) n < 1000 := fun c hc => by
    have h := qs_sml (f := fun k => qs_ct (fun i => qs_ap (o i) (b i) (T c) (T k)) t) (n := n) (h := 6) (fun k _ => Nat.le_trans qs_ctl t6)
    omega
  have L1 : qa_wh (fun s => s) (mc_137_3_p22 N x1 σ) N ((0 : Int32), (-9 : Int32), (0 : Int32)) = (nI n, qw_f (fun c (a : Int32 × Int32) => (if a.1 = -9 then nI c else (if a.2 < nI (qs_sm (fun k => qs_ct (fun i => qs_ap (o i) (b i) (T c) (T k)) t) n) then nI c else a.1), if a.1 = -9 then nI (qs_sm (fun k => qs_ct (fun i => qs_ap (o i) (b i) (T c) (T k)) t) n) else (if a.2 < nI (qs_sm (fun k => qs_ct (fun i => qs_ap (o i) (b i) (T c) (T k)) t) n) then nI (qs_sm (fun k => qs_ct (fun i => qs_ap (o i) (b i) (T c) (T k)) t) n) else a.2))) n (-9, 0)) := by
    refine qw_lp (e := fun s => s) (fun k a => (nI k, a)) (fun a => (nI n, a)) (fun c (a : Int32 × Int32) => (if a.1 = -9 then nI c else (if a.2 < nI (qs_sm (fun k => qs_ct (fun i => qs_ap (o i) (b i) (T c) (T k)) t) n) then nI c else a.1), if a.1 = -9 then nI (qs_sm (fun k => qs_ct (fun i => qs_ap (o i) (b i) (T c) (T k)) t) n) else (if a.2 < nI (qs_sm (fun k => qs_ct (fun i => qs_ap (o i) (b i) (T c) (T k)) t) n) then nI (qs_sm (fun k => qs_ct (fun i => qs_ap (o i) (b i) (T c) (T k)) t) n) else a.2))) n (-9, 0) (by omega) (fun c a hc => ?_) (fun a => ?_)
    · have Z : ma_138_3 N (nI c) σ = nI (qs_sm (fun k => qs_ct (fun i => qs_ap (o i) (b i) (T c) (T k)) t) n) := by
        unfold ma_138_3
        dsimp only [qa_in]
        refine congrArg Prod.snd (qw_lp (e := fun s => s) (fun k (a : Nat) => (nI k, nI a)) (fun a => (nI n, nI a)) (fun k a => a + qs_ct (fun i => qs_ap (o i) (b i) (T c) (T k)) t) n 0 (by omega) (fun k a hk => ?_) (fun a => ?_))
        · unfold mc_138_3_p4
          dsimp only [qa_in]
          rw [C.1, if_pos (qb_ltT hk (by omega)), qb_n (k := c) (by omega), qb_n (k := k) (by omega), qs_99 (x := T c) (y := T k) (by omega) B C (fun m hm => ⟨C.2.2.2.1 c m hc hm, by have := B.2.2.2.1 c m hc hm; omega⟩) (fun m hm => ⟨C.2.2.2.1 k m hk hm, by have := B.2.2.2.1 k m hk hm; omega⟩), qb_s, qw_add]
        · unfold mc_138_3_p4
          dsimp only
          rw [C.1, if_neg (qb_ltF (Nat.le_refl n) (by omega))]
      unfold mc_137_3_p22
      dsimp only [qa_in]
      rw [C.1, if_pos (qb_ltT hc (by omega)), Z, qb_s]
    · unfold mc_137_3_p22
      dsimp only
      rw [C.1, if_neg (qb_ltF (Nat.le_refl n) (by omega))]
  have L2 : qa_wh (fun s => s) (mc_245_99_p34 N x1 ρ) N ((0 : Int32), (-9 : Int32), (-1 : Int32)) = (nI n, qw_f (fun c (a : Int32 × Int32) => (if a.2 < nI (qs_sm (fun k => qs_ct (fun i => qs_ap (o i) (b i) (T c) (T k)) t) n) then nI c else a.1, if a.2 < nI (qs_sm (fun k => qs_ct (fun i => qs_ap (o i) (b i) (T c) (T k)) t) n) then nI (qs_sm (fun k => qs_ct (fun i => qs_ap (o i) (b i) (T c) (T k)) t) n) else a.2)) n (-9, -1)) := by
    refine qw_lp (e := fun s => s) (fun k a => (nI k, a)) (fun a => (nI n, a)) (fun c (a : Int32 × Int32) => (if a.2 < nI (qs_sm (fun k => qs_ct (fun i => qs_ap (o i) (b i) (T c) (T k)) t) n) then nI c else a.1, if a.2 < nI (qs_sm (fun k => qs_ct (fun i => qs_ap (o i) (b i) (T c) (T k)) t) n) then nI (qs_sm (fun k => qs_ct (fun i => qs_ap (o i) (b i) (T c) (T k)) t) n) else a.2)) n (-9, -1) (by omega) (fun c a hc => ?_) (fun a => ?_)
    · have Z : qa_wh (fun s => s) (mc_245_99_p49 N x1 a.1 a.2 (nI c) ρ) N ((0 : Int32), (0 : Int32)) = (nI n, nI (qs_sm (fun k => qs_ct (fun i => qs_ap (o i) (b i) (T c) (T k)) t) n)) := by
        refine qw_lp (e := fun s => s) (fun k (a : Nat) => (nI k, nI a)) (fun a => (nI n, nI a)) (fun k a => a + qs_ct (fun i => qs_ap (o i) (b i) (T c) (T k)) t) n 0 (by omega) (fun k y hk => ?_) (fun y => ?_)
        · have Z2 : qa_wh (fun s => s) (mc_245_99_p61 N x1 a.1 a.2 (nI c) (nI k) ρ) N ((0 : Int32), nI y) = (nI t, nI (y + qs_ct (fun i => !(k == c) && qs_ap (o i) (b i) (T c) (T k)) t)) := by
            rw [← qs_cta]
            refine qw_lp (e := fun s => s) (fun k (a : Nat) => (nI k, nI a)) (fun a => (nI t, nI a)) (fun i x => if !(k == c) && qs_ap (o i) (b i) (T c) (T k) then x + 1 else x) t y (by omega) (fun i x hi => ?_) (fun x => ?_)
            · unfold mc_245_99_p61
              dsimp only [qa_in]
              rw [R.2.1, if_pos (qb_ltT hi (by omega)), qs_188 (by omega) B R (by omega) hc hk, qb_s]
              by_cases e : k = c
              · rw [e, if_pos rfl, beq_self_eq_true]
                exact congrArg (fun z => Sum.inl (nI (i + 1), z)) (Int32.add_zero _)
              · rw [if_neg (fun h => e ((qb_eq (by omega) (by omega)).mp h)), beq_eq_false_iff_ne.mpr e]
                cases qs_ap (o i) (b i) (T c) (T k)
                · exact congrArg (fun z => Sum.inl (nI (i + 1), z)) (Int32.add_zero _)
                · exact congrArg (fun z => Sum.inl (nI (i + 1), z)) qb_s
            · unfold mc_245_99_p61
              dsimp only
              rw [R.2.1, if_neg (qb_ltF (Nat.le_refl t) (by omega))]
          unfold mc_245_99_p49
          dsimp only [qa_in]
          rw [R.1, if_pos (qb_ltT hk (by omega)), Z2, qb_s]
          have e : qs_ct (fun i => !(k == c) && qs_ap (o i) (b i) (T c) (T k)) t = qs_ct (fun i => qs_ap (o i) (b i) (T c) (T k)) t := qs_ctx (fun i _ => by
            by_cases e : k = c
            · rw [e, qs_apr, Bool.and_false]
            · rw [beq_eq_false_iff_ne.mpr e]; rfl)
          rw [e]
        · unfold mc_245_99_p49
          dsimp only
          rw [R.1, if_neg (qb_ltF (Nat.le_refl n) (by omega))]
      unfold mc_245_99_p34
      dsimp only [qa_in]
      rw [R.1, if_pos (qb_ltT hc (by omega)), Z, qb_s]
    · unfold mc_245_99_p34
      dsimp only
      rw [R.1, if_neg (qb_ltF (Nat.le_refl n) (by omega))]
  rw [L1, L2]
  dsimp only
  rcases qs_max (fun c => nI c) (fun c => nI (qs_sm (fun k => qs_ct (fun i => qs_ap (o i) (b i) (T c) (T k)) t) n)) (n := n) (fun k hk => qw_n9 (by omega)) (fun k hk => by
    rw [Int32.lt_iff_toInt_lt, nI_toInt (by have := cl k hk; omega), show (-1 : Int32).toInt = -1 by decide]; omega) with ⟨e1, e2⟩ | ⟨e1, e2, e3⟩
  · rw [e1, e2]
    rfl
  · rw [e1, if_neg (qw_m1 e3)]
end Q7
