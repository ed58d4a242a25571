/-! CALLS BY GLASSES: the best of some (tellsMost, duo), guess, alikeGlasses, pour -/
/-- the best so far: none, or who and how many -/
def qs_bE : Option (Fin 100 × Int32) → Int32 × Int32
  | none => (-9, -9)
  | some p => (nI p.1.val, p.2)
def qs_bS (x : Fin 100) (d : Int32) : Option (Fin 100 × Int32) → Option (Fin 100 × Int32)
  | none => some (x, d)
  | some p => if d < p.2 then some (x, d) else some p
theorem qs_bC (x : Fin 100) (d : Int32) (a : Option (Fin 100 × Int32)) : (if (qs_bE a).1 = -9 then nI x.val else (if d < (qs_bE a).2 then nI x.val else (qs_bE a).1), if (qs_bE a).1 = -9 then d else (if d < (qs_bE a).2 then d else (qs_bE a).2)) = qs_bE (qs_bS x d a) := by
  cases a with
  | none => rfl
  | some p =>
    have h : ¬ nI p.1.val = -9 := qw_n9 (by omega)
    show ((if nI p.1.val = -9 then nI x.val else (if d < p.2 then nI x.val else nI p.1.val), if nI p.1.val = -9 then d else (if d < p.2 then d else p.2)) : Int32 × Int32) = qs_bE (if d < p.2 then some (x, d) else some p)
    rw [if_neg h, if_neg h]
    by_cases c : d < p.2
    · rw [if_pos c, if_pos c, if_pos c]; rfl
    · rw [if_neg c, if_neg c, if_neg c]; rfl
theorem qs_bR (x : Fin 100) (d : Int32) (a : Option (Fin 100 × Int32)) : (if (if (qs_bE a).1 < 0 then (1 : Int32) else (if d < (qs_bE a).2 then 1 else 0)) = 0 then (qs_bE a).1 else nI x.val, if (if (qs_bE a).1 < 0 then (1 : Int32) else (if d < (qs_bE a).2 then 1 else 0)) = 0 then (qs_bE a).2 else d) = qs_bE (qs_bS x d a) := by
  cases a with
  | none => rfl
  | some p =>
    have h : ¬ nI p.1.val < 0 := qw_n0 (by omega)
    show ((if (if nI p.1.val < 0 then (1 : Int32) else (if d < p.2 then 1 else 0)) = 0 then nI p.1.val else nI x.val, if (if nI p.1.val < 0 then (1 : Int32) else (if d < p.2 then 1 else 0)) = 0 then p.2 else d) : Int32 × Int32) = qs_bE (if d < p.2 then some (x, d) else some p)
    rw [if_neg h]
    by_cases c : d < p.2
    · rw [if_pos c, if_pos c]; rfl
    · rw [if_neg c, if_neg c]; rfl
/-- a loop over all two, that writes besides -/
theorem qw_prm {A R : Type} {enc : A → qa_S → R} {so : Int32 × R → (Int32 × R) ⊕ (Int32 × R)} {si : Nat → Int32 × R → (Int32 × R) ⊕ (Int32 × R)} {e1 e2 : Int32 × R → Int32 × R} (W : qa_S → Prop) (F : Nat → Nat → A → A) (n : Nat) {N : Nat} (hn : n ≤ 7) (hN : 10 ≤ N) (ho : ∀ i a m, i < n → W m → so (nI i, enc a m) = .inl (nI (i + 1), (qa_wh e2 (si i) N (nI i + 1, enc a m)).2)) (hoe : ∀ a m, W m → so (nI n, enc a m) = .inr (nI n, enc a m)) (hi : ∀ i j a m, i < j → j < n → W m → ∃ m', si i (nI j, enc a m) = .inl (nI (j + 1), enc (F i j a) m') ∧ W m') (hie : ∀ i a m, W m → si i (nI n, enc a m) = .inr (nI n, enc a m)) (a : A) (m0 : qa_S) (h0 : W m0) : ∃ m, qa_wh e1 so N (0, enc a m0) = (nI n, enc (qs_pf n F a) m) ∧ W m := by
  refine qw_lm W (fun k a m => (nI k, enc a m)) (fun a m => (nI n, enc a m)) (fun i x => qw_f (fun j y => F i (i + 1 + j) y) (n - (i + 1)) x) n a m0 (by omega) h0 (fun i x m hi1 hm => ?_) (fun x m hm => ⟨m, hoe x m hm, hm⟩)
  obtain ⟨m', e, hm'⟩ := qw_lm (e := e2) (step := si i) (N := N) W (fun j y m => (nI (i + 1 + j), enc y m)) (fun y m => (nI n, enc y m)) (fun j y => F i (i + 1 + j) y) (n - (i + 1)) x m (by omega) hm (fun j y m hj hm => by
    obtain ⟨m', e, hm'⟩ := hi i (i + 1 + j) y m (by omega) (by omega) hm
    exact ⟨m', by rw [e]; rfl, hm'⟩) (fun y m hm => ⟨m, by rw [show i + 1 + (n - (i + 1)) = n by omega]; exact hie i y m hm, hm⟩)
  refine ⟨m', ?_, hm'⟩
  rw [ho i x m hi1 hm, qb_s]
  have e' : qa_wh e2 (si i) N (nI (i + 1), enc x m) = _ := e
  rw [e']
section QO
variable {n t : Nat} {x s : Nat → Nat} {T : Nat → Nat → Nat} {o b : Nat → Nat} {σ τ : qa_S} {N : Nat}
/-- how many fit by some -/
def qs_fc (n t : Nat) (s : Nat → Nat) (T : Nat → Nat → Nat) (o b : Nat → Nat) (w : Nat) : Int32 := nI (qs_cn n (qs_fb n t T o b (qs_gl n s T) w))
theorem qc_86 {xx : Prop} (hN : 5000 ≤ N) (hI : qb_I xx True σ) (hk : qk_M σ) (x1 : Int32) : (ma_86_3 N x1 σ).1 = (ma_206_99 N x1 (ma_86_3 N x1 σ).2).1 := by
  obtain ⟨n, t, s, T, o, b, B, C, P⟩ := qv_get hI
  have F : qb_F qb_sm2 σ (ma_86_3 N x1 σ).2 := mf_86_3 qb_hw (qb_hm (by omega)) qb_Fr
  suffices h : ∃ v, (ma_86_3 N x1 σ).1 = v ∧ ∀ τ, qv_P n t s T o b (qa_u τ 99 9 0) → (ma_206_99 N x1 τ).1 = v by
    obtain ⟨v, h1, h2⟩ := h
    exact h1.trans (h2 _ (qv_P2 F P)).symm
  have n7 := B.1
  have t6 := B.2.1
  unfold ma_86_3 ma_206_99
  dsimp only [qa_in]
  rcases qw_w x1 with ⟨w1, w2, -⟩ | ⟨-, w1, w2⟩
  · rw [if_pos w1, qb_9_2]
    exact ⟨_, rfl, fun τ hP => by rw [if_pos w2]; rfl⟩
  rw [if_neg w1]
  obtain ⟨G, eG⟩ : ∃ G : Nat → Option (Fin 100 × Int32) → Option (Fin 100 × Int32), G = fun i a => qs_bS ⟨i % 100, by omega⟩ (qs_fc n t s T o b (2 ^ i)) a := ⟨_, rfl⟩
  obtain ⟨m, e1, -⟩ := qw_lm (e := fun s => s) (step := mc_86_3_p23 N x1) (N := N) (fun m => qv_C n t s T o b m ∧ qk_M m) (fun k a m => (nI k, (qs_bE a).1, (qs_bE a).2, m)) (fun a m => (nI t, (qs_bE a).1, (qs_bE a).2, m)) G t none σ (by omega) ⟨C, hk⟩ (fun i a m hi hm => by
    have hw : 2 ^ i < 128 := by
      have : 2 ^ i ≤ 64 := qs_2t (by omega)
      omega
    obtain ⟨j1, Z2, -⟩ := qs_87 (N := N) (w := 2 ^ i) hN B hm.1 hm.2 hw
    refine ⟨(ma_87_3 N (nI (2 ^ i)) m).2, ?_, Z2.1, Z2.2.2.2.1⟩
    unfold mc_86_3_p23
    dsimp only [qa_in]
    have e := qs_bC ⟨i % 100, by omega⟩ (qs_fc n t s T o b (2 ^ i)) a
    rw [show (⟨i % 100, by omega⟩ : Fin 100).val = i from Nat.mod_eq_of_lt (by omega)] at e
    rw [if_pos (qw_ltT hm.1.2.1 hi (by omega)), qw_sh i (by omega), j1, qb_s, eG]
    dsimp only
    rw [← e]
    rfl) (fun a m hm => by
    unfold mc_86_3_p23
    dsimp only
    rw [if_neg (qw_ltF hm.1.2.1 (by omega))]
    exact ⟨_, rfl, hm⟩)
  have e1' : qa_wh (fun s => s) (mc_86_3_p23 N x1) N ((0 : Int32), (-9 : Int32), (-9 : Int32), σ) = _ := e1
  rw [e1']
  refine ⟨_, rfl, fun τ hP => ?_⟩
  rw [if_neg w2]
  obtain ⟨R, A, -⟩ := qs_194 (N := N) hN B hP
  obtain ⟨ρ, eρ⟩ : ∃ ρ, ρ = ma_194_99 N (qa_u τ 99 9 0) := ⟨_, rfl⟩
  rw [← eρ] at R A ⊢
  have D := qw_lp (e := fun s => s) (step := mc_206_99_p35 N x1 ρ) (N := N) (fun k a => (nI k, (qs_bE a).1, (qs_bE a).2)) (fun a => (nI t, (qs_bE a).1, (qs_bE a).2)) G t none (by omega) (fun i a hi => ?_) (fun a => ?_)
  · have D' : qa_wh (fun s => s) (mc_206_99_p35 N x1 ρ) N ((0 : Int32), (-9 : Int32), (-9 : Int32)) = _ := D
    rw [D']
  · have hw2 : 2 ^ i < 2 ^ t := Nat.pow_lt_pow_right (by omega) hi
    unfold mc_206_99_p35
    dsimp only [qa_in]
    have e := qs_bR ⟨i % 100, by omega⟩ (qs_fc n t s T o b (2 ^ i)) a
    rw [show (⟨i % 100, by omega⟩ : Fin 100).val = i from Nat.mod_eq_of_lt (by omega)] at e
    rw [if_pos (qw_ltT R.2.1 hi (by omega)), qw_sh i (by omega), qs_199 hN B R.1 A hw2, qb_s, eG]
    dsimp only
    rw [← e]
    rfl
  · unfold mc_206_99_p35
    dsimp only
    rw [if_neg (qw_ltF R.2.1 (by omega))]
theorem qs_2i {i j t : Nat} (ht : t ≤ 6) (hij : i < j) (hj : j < t) : 2 ^ i ||| 2 ^ j < 2 ^ t := Nat.or_lt_two_pow (Nat.pow_lt_pow_right (by omega) (by omega)) (Nat.pow_lt_pow_right (by omega) hj)
theorem qc_122 {xx : Prop} (hN : 5000 ≤ N) (hI : qb_I xx True σ) (hk : qk_M σ) (x1 : Int32) : (ma_122_3 N x1 σ).1 = (ma_234_99 N x1 (ma_122_3 N x1 σ).2).1 := by
  obtain ⟨n, t, s, T, o, b, B, C, P⟩ := qv_get hI
  have F : qb_F qb_sm2 σ (ma_122_3 N x1 σ).2 := mf_122_3 qb_hw (qb_hm (by omega)) qb_Fr
  suffices h : ∃ v, (ma_122_3 N x1 σ).1 = v ∧ ∀ τ, qv_P n t s T o b (qa_u τ 99 9 0) → (ma_234_99 N x1 τ).1 = v by
    obtain ⟨v, h1, h2⟩ := h
    exact h1.trans (h2 _ (qv_P2 F P)).symm
  have n7 := B.1
  have t6 := B.2.1
  have w64 := qs_2t t6
  unfold ma_122_3 ma_234_99
  dsimp only [qa_in]
  rcases qw_w x1 with ⟨w1, w2, -⟩ | ⟨-, w1, w2⟩
  · rw [if_pos w1, qb_9_2]
    exact ⟨_, rfl, fun τ hP => by rw [if_pos w2]; rfl⟩
  rw [if_neg w1]
  obtain ⟨G, eG⟩ : ∃ G : Nat → Nat → Option (Fin 100 × Int32) → Option (Fin 100 × Int32), G = fun i j a => qs_bS ⟨(10 * i + j) % 100, by omega⟩ (qs_fc n t s T o b (2 ^ i ||| 2 ^ j)) a := ⟨_, rfl⟩
  obtain ⟨m, e1, -⟩ := qw_prm (e1 := fun s => s) (so := mc_122_3_p23 N x1) (enc := fun a m => ((qs_bE a).1, (qs_bE a).2, m)) (si := fun i => mc_122_3_p41 N x1 (nI i)) (e2 := fun s => s) (N := N) (fun m => qv_C n t s T o b m ∧ qk_M m) G t (by omega) (by omega) (fun i a m hi hm => by
    unfold mc_122_3_p23
    dsimp only [qa_in]
    rw [if_pos (qw_ltT hm.1.2.1 hi (by omega)), qb_s]) (fun a m hm => by
    unfold mc_122_3_p23
    dsimp only
    rw [if_neg (qw_ltF hm.1.2.1 (by omega))]) (fun i j a m hij hj hm => by
    have hw2 := qs_2i t6 hij hj
    obtain ⟨j1, Z2, -⟩ := qs_87 (N := N) (w := 2 ^ i ||| 2 ^ j) hN B hm.1 hm.2 (by omega)
    refine ⟨(ma_87_3 N (nI (2 ^ i ||| 2 ^ j)) m).2, ?_, Z2.1, Z2.2.2.2.1⟩
    unfold mc_122_3_p41
    dsimp only [qa_in]
    have e := qs_bC ⟨(10 * i + j) % 100, by omega⟩ (qs_fc n t s T o b (2 ^ i ||| 2 ^ j)) a
    rw [show (⟨(10 * i + j) % 100, by omega⟩ : Fin 100).val = 10 * i + j from Nat.mod_eq_of_lt (by omega)] at e
    rw [if_pos (qw_ltT hm.1.2.1 hj (by omega)), qw_sh i (by omega), qw_sh j (by omega), qw_or, j1, qb_s, qw_tn, eG]
    dsimp only
    rw [← e]
    rfl) (fun i a m hm => by
    unfold mc_122_3_p41
    dsimp only
    rw [if_neg (qw_ltF hm.1.2.1 (by omega))]) none σ ⟨C, hk⟩
  have e1' : qa_wh (fun s => s) (mc_122_3_p23 N x1) N ((0 : Int32), (-9 : Int32), (-9 : Int32), σ) = _ := e1
  rw [e1']
  refine ⟨_, rfl, fun τ hP => ?_⟩
  rw [if_neg w2]
  obtain ⟨R, A, -⟩ := qs_194 (N := N) hN B hP
  obtain ⟨ρ, eρ⟩ : ∃ ρ, ρ = ma_194_99 N (qa_u τ 99 9 0) := ⟨_, rfl⟩
  rw [← eρ] at R A ⊢
  have D := qw_pr (e1 := fun s => s) (so := mc_234_99_p35 N x1 ρ) (enc := qs_bE) (si := fun i => mc_234_99_p50 N x1 (nI i) ρ) (e2 := fun s => s) G t (N := N) (by omega) (by omega) (fun i x hi => ?_) (fun x => ?_) (fun i j a hij hj => ?_) (fun i x => ?_) none
  · have D' : qa_wh (fun s => s) (mc_234_99_p35 N x1 ρ) N ((0 : Int32), (-9 : Int32), (-9 : Int32)) = _ := D
    rw [D']
  · unfold mc_234_99_p35
    dsimp only [qa_in]
    rw [if_pos (qw_ltT R.2.1 hi (by omega)), qb_s]
  · unfold mc_234_99_p35
    dsimp only
    rw [if_neg (qw_ltF R.2.1 (by omega))]
  · unfold mc_234_99_p50
    dsimp only [qa_in]
    have e := qs_bR ⟨(10 * i + j) % 100, by omega⟩ (qs_fc n t s T o b (2 ^ i ||| 2 ^ j)) a
    rw [show (⟨(10 * i + j) % 100, by omega⟩ : Fin 100).val = 10 * i + j from Nat.mod_eq_of_lt (by omega)] at e
    rw [if_pos (qw_ltT R.2.1 hj (by omega)), qw_sh i (by omega), qw_sh j (by omega), qw_or, qs_199 hN B R.1 A (qs_2i t6 hij hj), qb_s, qw_tn, eG]
    dsimp only
    rw [← e]
    rfl
  · unfold mc_234_99_p50
    dsimp only
    rw [if_neg (qw_ltF R.2.1 (by omega))]
/-! guess -/
theorem qs_gs {w with_ all : Int32} {μ ρ : qa_S} : mc_102_3_p130 N w with_ (all - with_) μ = mc_220_99_p130 N w all with_ ρ := by
  funext z
  unfold mc_102_3_p130 mc_220_99_p130
  rw [Int32.mul_comm w (all - with_), Int32.mul_comm z with_]
theorem qc_102 {xx : Prop} (hN : 5000 ≤ N) (hI : qb_I xx True σ) (hk : qk_M σ) (x1 x2 x3 x4 : Int32) : (ma_102_3 N x1 x2 x3 x4 σ).1 = (ma_220_99 N x1 x2 x3 x4 (ma_102_3 N x1 x2 x3 x4 σ).2).1 := by
  obtain ⟨n, t, s, T, o, b, B, C, P⟩ := qv_get hI
  have F : qb_F qb_sm2 σ (ma_102_3 N x1 x2 x3 x4 σ).2 := mf_102_3 qb_hw (qb_hm (by omega)) qb_Fr
  suffices h : ∃ v, (ma_102_3 N x1 x2 x3 x4 σ).1 = v ∧ ∀ τ, qv_P n t s T o b (qa_u τ 99 9 0) → (ma_220_99 N x1 x2 x3 x4 τ).1 = v by
    obtain ⟨v, h1, h2⟩ := h
    exact h1.trans (h2 _ (qv_P2 F P)).symm
  have n7 := B.1
  have t6 := B.2.1
  have w64 := qs_2t t6
  have p2 := Nat.two_pow_pos t
  have gl := fun m (hm : m < 4) => qs_gll (m := m) B hm
  have r1 : ∀ z : Int32, z < 0 → ma_201 z x4 1 = z := fun z hz => by
    unfold ma_201
    rw [if_neg (fun c => by rw [c] at hz; exact absurd hz (by decide))]
  have m1 : (-1 : Int32) < 0 := by decide
  have m4 : (-4 : Int32) < 0 := by decide
  have m6 : (-6 : Int32) < 0 := by decide
  unfold ma_102_3 ma_220_99
  dsimp only [qa_in]
  rcases qw_c n7 x1 with ⟨h1, h2⟩ | ⟨c, hc, rfl, h1, h2⟩
  · rw [if_pos (h1 σ C.1), qb_9_1]
    exact ⟨_, rfl, fun τ hP => by rw [if_pos (h2 _ hP.1), r1 _ m1, if_pos m1]; rfl⟩
  rw [if_neg (h1 σ C.1)]
  by_cases c1 : x2 < 1
  · rw [if_pos c1, qb_9_4]
    exact ⟨_, rfl, fun τ hP => by rw [if_neg (h2 _ hP.1), if_pos c1, r1 _ m4, if_pos m4]; rfl⟩
  rw [if_neg c1]
  by_cases c2 : x3 < 0
  · rw [if_pos c2, qb_9_4]
    exact ⟨_, rfl, fun τ hP => by rw [if_neg (h2 _ hP.1), if_neg c1, if_pos c2, r1 _ m4, if_pos m4]; rfl⟩
  rw [if_neg c2]
  by_cases c3 : 99 < x2
  · rw [if_pos c3, qb_9_6]
    exact ⟨_, rfl, fun τ hP => by rw [if_neg (h2 _ hP.1), if_neg c1, if_neg c2, if_pos c3, r1 _ m6, if_pos m6]; rfl⟩
  rw [if_neg c3]
  by_cases c4 : 99 < x3
  · rw [if_pos c4, qb_9_6]
    exact ⟨_, rfl, fun τ hP => by rw [if_neg (h2 _ hP.1), if_neg c1, if_neg c2, if_neg c3, if_pos c4, r1 _ m6, if_pos m6]; rfl⟩
  rw [if_neg c4]
  rcases qb_201 (x2 := x4) with ⟨w1, w2⟩ | ⟨w1, w2⟩
  · rw [if_pos w1, qb_9_2]
    exact ⟨_, rfl, fun τ hP => by
      rw [if_neg (h2 _ hP.1), if_neg c1, if_neg c2, if_neg c3, if_neg c4, w2, if_pos (show (-2 : Int32) < 0 by decide)]; rfl⟩
  rw [if_neg w1, qs_60p t6 C.2.1]
  obtain ⟨⟨C1, V1, W1, M1, z1⟩, -⟩ := qs_am (N := N) (w := 2 ^ t - 1) hN B C hk (by omega)
  obtain ⟨μ, eμ⟩ : ∃ μ, μ = ma_72_3 N (ma_65_3 N (nI (2 ^ t - 1)) σ) := ⟨_, rfl⟩
  rw [← eμ] at C1 V1 W1 M1 z1 ⊢
  rw [qk_72i z1, qs_82 hN B M1.1.2 V1 W1 gl hc, qs_75 hN B V1 W1 gl]
  obtain ⟨all, eall⟩ : ∃ all, all = qs_cn n (qs_fb n t T o b (qs_gl n s T) (2 ^ t - 1)) := ⟨_, rfl⟩
  obtain ⟨wc, ewc⟩ : ∃ wc, wc = qs_cn n (fun g => qs_fb n t T o b (qs_gl n s T) (2 ^ t - 1) g && decide (0 < qb_sh n g c)) := ⟨_, rfl⟩
  have la : all ≤ 2186 := by rw [eall]; exact qs_cnl n7
  have z0 : all = 0 → wc = 0 := fun z => by
    rw [eall] at z
    have := (qs_ct0 (p := fun k => qs_fb n t T o b (qs_gl n s T) (2 ^ t - 1) (1 + k)) (3 ^ n - 1)).mp z
    rw [ewc]
    exact (qs_ct0 (p := fun k => qs_fb n t T o b (qs_gl n s T) (2 ^ t - 1) (1 + k) && decide (0 < qb_sh n (1 + k) c)) (3 ^ n - 1)).mpr (fun k hk => by rw [this k hk, Bool.false_and])
  rw [← eall, ← ewc]
  have ref : ∀ τ, qv_P n t s T o b (qa_u τ 99 9 0) → (ma_193_99 N (qa_u τ 99 9 0)).1 = nI all ∧ (if nI all = 0 then (0 : Int32) else (ma_202_99 N (ma_190_99 (ma_193_99 N (qa_u τ 99 9 0)).2) (nI c) (ma_193_99 N (qa_u τ 99 9 0)).2).1) = nI wc := fun τ hP => by
    obtain ⟨e1, R, A, -⟩ := qs_193 (N := N) hN B hP
    refine ⟨by rw [e1, eall], ?_⟩
    rw [qs_190p t6 R.2.1, (qs_202 (N := N) (w := 2 ^ t - 1) hN B R A (by omega) hc).1, ← ewc]
    by_cases z : nI all = 0
    · rw [if_pos z, z0 ((qw_z (by omega)).mp z)]; rfl
    · rw [if_neg z]
  have rr : ∀ τ, qv_P n t s T o b (qa_u τ 99 9 0) → ma_201 (if ma_163_99 (nI c) (qa_u τ 99 9 0) = 0 then (-1 : Int32) else (if x2 < 1 then -4 else (if x3 < 0 then -4 else (if 99 < x2 then -6 else (if 99 < x3 then -6 else 0))))) x4 1 = 0 := fun τ hP => by
    rw [if_neg (h2 _ hP.1), if_neg c1, if_neg c2, if_neg c3, if_neg c4]; exact w2
  by_cases c5 : x4 = 0
  · rw [if_pos c5]
    refine ⟨_, rfl, fun τ hP => ?_⟩
    rw [rr τ hP, if_neg (show ¬ (0 : Int32) < 0 by decide), if_pos c5]
    dsimp only
    rw [(ref τ hP).1, (ref τ hP).2, Int32.mul_comm (nI all - nI wc) x3, Int32.mul_comm (nI wc) x2]
  · rw [if_neg c5]
    refine ⟨_, rfl, fun τ hP => ?_⟩
    rw [rr τ hP, if_neg (show ¬ (0 : Int32) < 0 by decide), if_neg c5]
    rw [(ref τ hP).1, (ref τ hP).2, ← qs_gs (N := N) (μ := μ)]
    generalize qa_wh (fun s => Sum.inr s) (mc_102_3_p130 N x3 (nI wc) (nI all - nI wc) μ) N 1 = r
    cases r <;> rfl
/-! alikeGlasses, pour: a taster thought -/
theorem qs_tl0 {y : Nat} : qs_tl 0 y = y := by unfold qs_tl; rw [Nat.zero_add, Nat.div_one, Nat.mul_one]
theorem qs_fb1 {q y : Nat} {g : Nat} : qs_fb n 1 T (fun _ => q) (fun _ => 0) x 1 g = true ↔ ∀ m, m < 4 → q.testBit m = true → x m = qs_X n T g m := by
  unfold qs_fb
  rw [Bool.not_eq_true', qs_anyF]
  constructor
  · intro h m hm hq
    have := h 0 (by omega)
    rw [show (1 : Nat).testBit 0 = true from rfl, Bool.true_and, qs_apF] at this
    have := this m hm hq
    rwa [qs_tl0, qs_tl0] at this
  · intro h i hi
    have e : i = 0 := by omega
    subst e
    rw [show (1 : Nat).testBit 0 = true from rfl, Bool.true_and, qs_apF]
    intro m hm hq
    rw [qs_tl0, qs_tl0]
    exact h m hm hq
theorem qs_lo1 {q m : Nat} : qs_lo 1 1 (fun _ => q) (fun _ => 0) x m = if q.testBit m then x m else 0 := by
  have e : qs_lo 1 1 (fun _ => q) (fun _ => 0) x m = if (1 : Nat).testBit 0 && q.testBit m then (if 0 < qs_tl 0 (x m) then qs_tl 0 (x m) else 0) else 0 := rfl
  rw [e, show (1 : Nat).testBit 0 = true from rfl, Bool.true_and, qs_tl0]
  by_cases c : q.testBit m = true
  · rw [if_pos c, if_pos c]; split <;> omega
  · rw [if_neg c, if_neg c]
theorem qs_hi1 {q m : Nat} (hx : x m ≤ 99) : qs_hi 1 1 (fun _ => q) (fun _ => 0) x m = if q.testBit m then x m else 99 := by
  have e : qs_hi 1 1 (fun _ => q) (fun _ => 0) x m = if (1 : Nat).testBit 0 && q.testBit m then (if qs_tl 0 (x m) + 0 < 99 then qs_tl 0 (x m) + 0 else 99) else 99 := rfl
  rw [e, show (1 : Nat).testBit 0 = true from rfl, Bool.true_and, qs_tl0]
  by_cases c : q.testBit m = true
  · rw [if_pos c, if_pos c]; split <;> omega
  · rw [if_neg c, if_neg c]
theorem qv_B1 {q : Nat} (hB : qv_B n t s T o b) (hq : q ≤ 15) : qv_B n 1 s T (fun _ => q) (fun _ => 0) := ⟨hB.1, by omega, hB.2.2.1, hB.2.2.2.1, fun i hi => ⟨hq, Nat.zero_le 9⟩⟩
theorem qs_15 : ∀ m, m < 4 → (15 : Nat).testBit m = true := by decide
theorem qc_135 {xx : Prop} (hN : 5000 ≤ N) (hI : qb_I xx True σ) (hk : qk_M σ) : (ma_135_3 N σ).1 = (ma_243_99 N (ma_135_3 N σ).2).1 := by
  obtain ⟨n, t, s, T, o, b, B, C, P⟩ := qv_get hI
  have F : qb_F qb_sm2 σ (ma_135_3 N σ).2 := mf_135_3 qb_hw (qb_hm (by omega)) qb_Fr
  suffices h : ∃ v, (ma_135_3 N σ).1 = v ∧ ∀ τ, qv_P n t s T o b (qa_u τ 99 9 0) → (ma_243_99 N τ).1 = v by
    obtain ⟨v, h1, h2⟩ := h
    exact h1.trans (h2 _ (qv_P2 F P)).symm
  have n7 := B.1
  have l3 := qk_3n n7
  have p0 : 0 < 3 ^ n := Nat.pow_pos (by omega)
  have gl9 : ∀ m, m < 4 → qs_gl n s T m ≤ 99 := fun m hm => qs_mx99 (fun c hc => B.2.2.2.1 c m hc hm)
  unfold ma_135_3 ma_243_99
  dsimp only [qa_in]
  obtain ⟨q1, F1⟩ := qs_46 (N := N) (by omega) B C
  have C1 := qv_CF F1 (fun a j h c => by omega) C n7
  have M1 : qk_M (ma_46_3 N σ) := qk_MF F1 (fun a j r => by unfold qb_rQ at r; omega) hk
  obtain ⟨μ, eμ⟩ : ∃ μ, μ = ma_46_3 N σ := ⟨_, rfl⟩
  rw [← eμ] at q1 F1 C1 M1 ⊢
  obtain ⟨o1, F2⟩ := qs_67 (σ := μ) (N := N) (by omega)
  obtain ⟨ν, eν⟩ : ∃ ν, ν = ma_67_80 N μ := ⟨_, rfl⟩
  rw [← eν] at o1 F2 ⊢
  have A : (fun (κ : qa_S) => (∀ m, m < 4 → κ 81 m = nI (qs_gl n s T m) ∧ κ 82 m = nI (qs_gl n s T m)) ∧ qb_F (fun a _ => a = 81 ∨ a = 82) μ κ) (qa_wh (fun s => s) (mc_135_3_p13 N) N ((0 : Int32), ν)).2 := by
    refine qb_l0 (fun (k : Nat) (q : Int32 × qa_S) => q.1 = nI k ∧ (∀ m, m < k → q.2 81 m = nI (qs_gl n s T m) ∧ q.2 82 m = nI (qs_gl n s T m)) ∧ (∀ m, k ≤ m → m < 4 → q.2 81 m = 0 ∧ q.2 82 m = 99) ∧ qb_F (fun a _ => a = 81 ∨ a = 82) μ q.2) (fun (q : Int32 × qa_S) => (∀ m, m < 4 → q.2 81 m = nI (qs_gl n s T m) ∧ q.2 82 m = nI (qs_gl n s T m)) ∧ qb_F (fun a _ => a = 81 ∨ a = 82) μ q.2) 4 (by omega) ⟨rfl, fun m hm => by omega, fun m _ hm => o1 m hm, F2⟩ ?_ ?_
    · rintro k ⟨r1, r2⟩ hk ⟨g1, g2, g3, g4⟩
      dsimp only at g1 g2 g3 g4
      subst g1
      have g9 := gl9 k hk
      obtain ⟨p1, p2, p3⟩ := qs_69 (σ := r2) (c := 0) (y := qs_gl n s T k) (l := 0) (h := 99) hk (by omega) (by omega) (g3 k (Nat.le_refl k) hk).1 (g3 k (Nat.le_refl k) hk).2 (by omega) (by omega)
      unfold mc_135_3_p13
      dsimp only [qa_in]
      rw [if_pos (show nI k < (4 : Int32) from qb_ltT (b := 4) hk (by omega)), qb_n (k := k) (by omega), g4 94 k (by omega), q1 k hk, qb_s, show (0 : Int32) = nI 0 from rfl]
      refine ⟨_, rfl, rfl, fun m hm => ?_, fun m h1 h2 => ?_, fun a j ha => ?_⟩
      · dsimp only
        by_cases e : m = k
        · subst e
          rw [p1, p2, qs_tl0]
          refine ⟨congrArg nI ?_, congrArg nI ?_⟩
          · split <;> omega
          · split <;> omega
        · rw [p3 81 m (by omega), p3 82 m (by omega)]; exact g2 m (by omega)
      · dsimp only
        rw [p3 81 m (by omega), p3 82 m (by omega)]; exact g3 m (by omega) h2
      · dsimp only
        rw [p3 a j (by omega)]; exact g4 a j ha
    · rintro ⟨r1, r2⟩ ⟨g1, g2, g3, g4⟩
      dsimp only at g1 g2 g3 g4
      subst g1
      unfold mc_135_3_p13
      dsimp only
      rw [if_neg (show ¬ nI 4 < (4 : Int32) by decide)]
      exact ⟨_, rfl, g2, g4⟩
  obtain ⟨κ, eκ⟩ : ∃ κ, κ = (qa_wh (fun s => s) (mc_135_3_p13 N) N ((0 : Int32), ν)).2 := ⟨_, rfl⟩
  rw [← eκ] at A ⊢
  obtain ⟨A1, A2⟩ := A
  have C2 := qv_CF A2 (fun a j h c => by omega) C1 n7
  have M2 : qk_M κ := qk_MF A2 (fun a j r => by unfold qb_rQ at r; omega) M1
  obtain ⟨Q, z, F3⟩ := qk_72 (N := N) hN M2.1 M2.2
  obtain ⟨κ', eκ'⟩ : ∃ κ', κ' = ma_72_3 N κ := ⟨_, rfl⟩
  rw [← eκ'] at Q z F3 ⊢
  have C3 := qv_CF F3 (fun a j h c => by omega) C2 n7
  have V := qs_V1 B C3 Q z
  have W : qs_W (qs_lo 1 1 (fun _ => 15) (fun _ => 0) (qs_gl n s T)) (qs_hi 1 1 (fun _ => 15) (fun _ => 0) (qs_gl n s T)) κ' := fun m hm => by
    rw [qs_lo1, qs_hi1 (gl9 m hm), if_pos (qs_15 m hm), if_pos (qs_15 m hm), F3 81 m (by omega), F3 82 m (by omega)]
    exact A1 m hm
  rw [qs_75 hN (qv_B1 B (q := 15) (by omega)) V W (fun m hm => by have := gl9 m hm; omega)]
  refine ⟨_, rfl, fun τ hP => ?_⟩
  obtain ⟨R, -, g9, G1⟩ := qs_180 (N := N) (by omega) B hP
  obtain ⟨ρ, eρ⟩ : ∃ ρ, ρ = ma_180_99 N (qa_u τ 99 9 0) := ⟨_, rfl⟩
  rw [← eρ] at R g9 G1 ⊢
  rw [qs_195 (by omega) n7 R.1]
  obtain ⟨m, e1, -⟩ := qw_lm (e := fun s => s) (step := mc_243_99_p18 N (nI (3 ^ n))) (N := N) (fun m => qb_F (fun a _ => a = 110 ∨ a = 111) ρ m) (fun k (a : Nat) m => (nI (1 + k), nI a, m)) (fun a m => (nI (1 + (3 ^ n - 1)), nI a, m)) (fun k a => if qs_fb n 1 T (fun _ => 15) (fun _ => 0) (qs_gl n s T) 1 (1 + k) then a + 1 else a) (3 ^ n - 1) 0 ρ (by omega) qb_Fr (fun k a m hk hm => by
    have R0 := qv_RF hm (fun a j h c => by omega) R
    obtain ⟨b1, b2⟩ := qs_196 (N := N) (τ := m) (g := 1 + k) (by omega) n7 R0.1 (by omega)
    have R1 := qv_RF b2 (fun a j h c => by omega) R0
    obtain ⟨m1, em1⟩ : ∃ m1, m1 = ma_196_99 N (nI (1 + k)) m := ⟨_, rfl⟩
    rw [← em1] at b1 b2 R1
    obtain ⟨c1, c2⟩ := qs_183 (N := N) (r := qb_sh n (1 + k)) (by omega) B R1 (fun c hc => ⟨b1 c hc, by have := qk_sh2 (n := n) (g := 1 + k) (c := c); omega⟩)
    obtain ⟨m2, em2⟩ : ∃ m2, m2 = ma_183_99 N m1 := ⟨_, rfl⟩
    rw [← em2] at c1 c2
    have Z : qa_wh (fun s => s) (mc_243_99_p38 N (nI (3 ^ n)) (nI a) (nI (1 + k)) m2) N ((0 : Int32), (1 : Int32)) = (nI 4, if qs_fb n 1 T (fun _ => 15) (fun _ => 0) (qs_gl n s T) 1 (1 + k) then 1 else 0) := by
      have h := qw_lp (e := fun s => s) (step := mc_243_99_p38 N (nI (3 ^ n)) (nI a) (nI (1 + k)) m2) (N := N) (fun j (a : Bool) => (nI j, if a then (1 : Int32) else 0)) (fun a => (nI 4, if a then (1 : Int32) else 0)) (fun j a => a && (qs_X n T (1 + k) j == qs_gl n s T j)) 4 true (by omega) (fun j a hj => ?_) (fun a => ?_)
      · refine Eq.trans h ?_
        have e : qw_f (fun j a => a && (qs_X n T (1 + k) j == qs_gl n s T j)) 4 true = qs_fb n 1 T (fun _ => 15) (fun _ => 0) (qs_gl n s T) 1 (1 + k) := by
          apply Bool.eq_iff_iff.mpr
          rw [qs_fb1 (y := 0)]
          have := qs_allT (f := fun j => qs_X n T (1 + k) j == qs_gl n s T j) 4
          refine this.trans ⟨fun h m hm _ => ?_, fun h m hm => ?_⟩
          · have := h m hm
            rw [beq_iff_eq] at this
            exact this.symm
          · rw [beq_iff_eq]
            exact (h m hm (qs_15 m hm)).symm
        rw [e]
      · have g9' := gl9 j hj
        have x9 := qs_Xl (g := 1 + k) B hj
        unfold mc_243_99_p38
        dsimp only
        rw [if_pos (show nI j < (4 : Int32) from qb_ltT (b := 4) hj (by omega)), qb_n (k := j) (by omega), c1 j hj, c2 109 j (by omega), b2 109 j (by omega), hm 109 j (by omega), g9 j hj, qb_s]
        have e : (nI (qs_mx n (qb_sh n (1 + k)) T 0 j) = nI (qs_gl n s T j)) ↔ (qs_X n T (1 + k) j == qs_gl n s T j) = true := qs_eqi (by unfold qs_X at x9; omega) (by omega)
        cases a
        · rfl
        · by_cases c : nI (qs_mx n (qb_sh n (1 + k)) T 0 j) = nI (qs_gl n s T j)
          · rw [if_pos c, e.mp c]; rfl
          · rw [if_neg c, Bool.eq_false_iff.mpr (fun h => c (e.mpr h))]; rfl
      · unfold mc_243_99_p38
        dsimp only
        rw [if_neg (show ¬ nI 4 < (4 : Int32) by decide)]
    refine ⟨m2, ?_, qb_Ft (qb_Ft hm b2 (fun a j h => h) (fun a j h => Or.inl h)) c2 (fun a j h => h) (fun a j h => Or.inr h)⟩
    unfold mc_243_99_p18
    dsimp only [qa_in]
    rw [if_pos (show nI (1 + k) < nI (3 ^ n) from qb_ltT (by omega) (by omega)), ← em1, ← em2, Z, qb_s]
    cases qs_fb n 1 T (fun _ => 15) (fun _ => 0) (qs_gl n s T) 1 (1 + k)
    · exact congrArg Sum.inl (Prod.ext rfl (Prod.ext (Int32.add_zero _) rfl))
    · exact congrArg Sum.inl (Prod.ext rfl (Prod.ext qb_s rfl))) (fun a m hm => by
    unfold mc_243_99_p18
    dsimp only
    rw [if_neg (show ¬ nI (1 + (3 ^ n - 1)) < nI (3 ^ n) from qb_ltF (by omega) (by omega))]
    exact ⟨_, rfl, hm⟩)
  have e1' : qa_wh (fun s => s) (mc_243_99_p18 N (nI (3 ^ n))) N ((1 : Int32), (0 : Int32), ρ) = _ := e1
  rw [e1']
  rfl
end QO
