/-! in, sharper, more -/
section QR
variable {n t : Nat} {x s : Nat → Nat} {T : Nat → Nat → Nat} {o b : Nat → Nat} {σ τ : qa_S} {N : Nat}
theorem qc_80 {xx : Prop} (hN : 5000 ≤ N) (hI : qb_I xx True σ) (hk : qk_M σ) (x1 x2 : Int32) : (ma_80_3 N x1 x2 σ).1 = (ma_200_99 N x1 x2 (ma_80_3 N x1 x2 σ).2).1 := by
  obtain ⟨n, t, s, T, o, b, B, C, P⟩ := qv_get hI
  have F : qb_F qb_sm2 σ (ma_80_3 N x1 x2 σ).2 := mf_80_3 qb_hw (qb_hm (by omega)) qb_Fr
  suffices h : ∃ v, (ma_80_3 N x1 x2 σ).1 = v ∧ ∀ τ, qv_P n t s T o b (qa_u τ 99 9 0) → (ma_200_99 N x1 x2 τ).1 = v by
    obtain ⟨v, h1, h2⟩ := h
    exact h1.trans (h2 _ (qv_P2 F P)).symm
  have n7 := B.1
  have t6 := B.2.1
  have w64 := qs_2t t6
  have p2 := Nat.two_pow_pos t
  have gl := fun m (hm : m < 4) => qs_gll (m := m) B hm
  have m1 : (-1 : Int32) < 0 := by decide
  have m2 : (-2 : Int32) < 0 := by decide
  unfold ma_80_3 ma_200_99 ma_81_3
  dsimp only [qa_in]
  rcases qw_c n7 x1 with ⟨h1, h2⟩ | ⟨c, hc, rfl, h1, h2⟩
  · rw [if_pos (h1 σ C.1), qb_9_1]
    exact ⟨_, rfl, fun τ hP => by rw [if_pos (h2 _ hP.1), if_pos m1]; rfl⟩
  rw [if_neg (h1 σ C.1)]
  rcases qb_201 (x2 := x2) with ⟨w1, w2⟩ | ⟨w1, w2⟩
  · rw [if_pos w1, qb_9_2]
    exact ⟨_, rfl, fun τ hP => by rw [if_neg (h2 _ hP.1), w2, if_pos m2]; rfl⟩
  rw [if_neg w1, qs_60p t6 C.2.1]
  have hp : x2 = 0 ∨ x2 = 1 := by
    rcases qw_w x2 with ⟨w3, -, -⟩ | ⟨w3, -, -⟩
    · exact absurd w3 w1
    · exact w3
  obtain ⟨⟨C1, V1, W1, M1, z1⟩, -⟩ := qs_am (N := N) (w := 2 ^ t - 1) hN B C hk (by omega)
  obtain ⟨μ, eμ⟩ : ∃ μ, μ = ma_72_3 N (ma_65_3 N (nI (2 ^ t - 1)) σ) := ⟨_, rfl⟩
  rw [← eμ] at C1 V1 W1 M1 z1 ⊢
  rw [qk_72i z1, qs_82 hN B M1.1.2 V1 W1 gl hc, qs_75 hN B V1 W1 gl]
  obtain ⟨all, eall⟩ : ∃ all, all = qs_cn n (qs_fb n t T o b (qs_gl n s T) (2 ^ t - 1)) := ⟨_, rfl⟩
  obtain ⟨wc, ewc⟩ : ∃ wc, wc = qs_cn n (fun g => qs_fb n t T o b (qs_gl n s T) (2 ^ t - 1) g && decide (0 < qb_sh n g c)) := ⟨_, rfl⟩
  have la : all ≤ 2186 := by rw [eall]; exact qs_cnl n7
  have lw : wc ≤ 2186 := by rw [ewc]; exact qs_cnl n7
  have z0 : all = 0 → wc = 0 := fun z => by
    rw [eall] at z
    have := (qs_ct0 (p := fun k => qs_fb n t T o b (qs_gl n s T) (2 ^ t - 1) (1 + k)) (3 ^ n - 1)).mp z
    rw [ewc]
    exact (qs_ct0 (p := fun k => qs_fb n t T o b (qs_gl n s T) (2 ^ t - 1) (1 + k) && decide (0 < qb_sh n (1 + k) c)) (3 ^ n - 1)).mpr (fun k hk => by rw [this k hk, Bool.false_and])
  rw [← eall, ← ewc, nL_I (by omega), nL_I (by omega)]
  refine ⟨_, rfl, fun τ hP => ?_⟩
  rw [if_neg (h2 _ hP.1), w2, if_neg (show ¬ (0 : Int32) < 0 by decide)]
  obtain ⟨e1, R, A, -⟩ := qs_193 (N := N) hN B hP
  obtain ⟨ρ, eρ⟩ : ∃ ρ, ρ = ma_193_99 N (qa_u τ 99 9 0) := ⟨_, rfl⟩
  rw [← eρ] at e1 R A ⊢
  rw [← eall] at e1
  rw [e1, qs_190p t6 R.2.1, (qs_202 (N := N) (w := 2 ^ t - 1) hN B R A (by omega) hc).1, ← ewc, nL_I (by omega), nL_I (by omega)]
  by_cases z : all = 0
  · have zw := z0 z
    rw [if_pos ((qw_z (by omega)).mpr z), zw]
    exact (qt_0 (N := N) (B := nL all) hp).symm
  · rw [if_neg (fun h => z ((qw_z (by omega)).mp h)), qt_fr hN (by rw [nL_i (by omega)]; omega) (by omega) (by omega) hp]
/-! sharper -/
def qt_b0 (b : Nat → Nat) (i : Nat) : Nat → Nat := fun j => if j = i then 0 else b j
theorem qt_Bb {i : Nat} (hB : qv_B n t s T o b) : qv_B n t s T o (qt_b0 b i) := ⟨hB.1, hB.2.1, hB.2.2.1, hB.2.2.2.1, fun j hj => ⟨(hB.2.2.2.2 j hj).1, by unfold qt_b0; have := (hB.2.2.2.2 j hj).2; split <;> omega⟩⟩
theorem qk_tm {w : Nat → Nat → Prop} {ρ : qa_S} {a j : Nat} {v : Int32} (h : qb_F w (qa_u τ a j v) ρ) : qb_F w τ (qa_u ρ a j (τ a j)) := fun c i hc => by
  by_cases e : c = a ∧ i = j
  · rw [e.1, e.2, qb_uE]
  · have e' : c ≠ a ∨ i ≠ j := by omega
    rw [qb_uN e', h c i hc, qb_uN e']
theorem qv_Cb {i : Nat} (hn : n ≤ 7) (hC : qv_C n t s T o b σ) : qv_C n t s T o (qt_b0 b i) (qa_u σ 25 i 0) := by
  obtain ⟨c1, c2, c3, c4, c5⟩ := hC
  refine ⟨(qb_uA (by omega)).trans c1, (qb_uA (by omega)).trans c2, fun c hc => (qb_uA (by omega)).trans (c3 c hc), fun c m hc hm => (qb_uA (by omega)).trans (c4 c m hc hm), fun j hj => ⟨(qb_uA (by omega)).trans (c5 j hj).1, ?_⟩⟩
  rw [qb_uJ]
  unfold qt_b0
  by_cases e : j = i
  · rw [if_pos e, if_pos e]; rfl
  · rw [if_neg e, if_neg e]; exact (c5 j hj).2
theorem qv_Pb {i : Nat} (hP : qv_P n t s T o b τ) : qv_P n t s T o (qt_b0 b i) (qa_u τ 105 i 0) := by
  obtain ⟨c1, c2, c3, c4, c5⟩ := hP
  refine ⟨(qb_uA (by omega)).trans c1, (qb_uA (by omega)).trans c2, fun c hc => (qb_uA (by omega)).trans (c3 c hc), fun j hj => ⟨(qb_uA (by omega)).trans (c4 j hj).1, ?_⟩, fun c m hc hm => ?_⟩
  · rw [qb_uJ]
    unfold qt_b0
    by_cases e : j = i
    · rw [if_pos e, if_pos e]; rfl
    · rw [if_neg e, if_neg e]; exact (c4 j hj).2
  · rw [← c5 c m hc hm]
    exact qb_Tx (n := n) (fun c _ => qb_uA (by omega)) (fun c _ => qb_uA (by omega)) (fun c m _ _ => qb_uA (by omega)) c m hc hm
theorem qc_115 {xx : Prop} (hN : 5000 ≤ N) (hI : qb_I xx True σ) (hk : qk_M σ) : (ma_115_3 N σ).1 = (ma_229_99 N (ma_115_3 N σ).2).1 := by
  obtain ⟨n, t, s, T, o, b, B, C, P⟩ := qv_get hI
  have F : qb_F qb_sm2 σ (ma_115_3 N σ).2 := qe_115 (by omega)
  suffices h : ∃ v, (ma_115_3 N σ).1 = v ∧ ∀ τ, qv_P n t s T o b (qa_u τ 99 9 0) → (ma_229_99 N τ).1 = v by
    obtain ⟨v, h1, h2⟩ := h
    exact h1.trans (h2 _ (qv_P2 F P)).symm
  have n7 := B.1
  have t6 := B.2.1
  have w64 := qs_2t t6
  have p2 := Nat.two_pow_pos t
  unfold ma_115_3 ma_229_99
  dsimp only [qa_in]
  rw [qs_60p t6 C.2.1]
  obtain ⟨k1, Z1, -⟩ := qs_87 (N := N) (w := 2 ^ t - 1) hN B C hk (by omega)
  obtain ⟨μ, eμ⟩ : ∃ μ, μ = ma_87_3 N (nI (2 ^ t - 1)) σ := ⟨_, rfl⟩
  rw [← eμ] at k1 Z1 ⊢
  rw [k1]
  obtain ⟨G, eG⟩ : ∃ G : Nat → Int32 × Int32 → Int32 × Int32, G = fun i a => (if qs_fc n t s T o (qt_b0 b i) (2 ^ t - 1) < a.2 then nI i else a.1, if qs_fc n t s T o (qt_b0 b i) (2 ^ t - 1) < a.2 then qs_fc n t s T o (qt_b0 b i) (2 ^ t - 1) else a.2) := ⟨_, rfl⟩
  obtain ⟨m, e1, -⟩ := qw_lm (e := fun s => s) (step := mc_115_3_p14 N) (N := N) (fun m => qv_C n t s T o b m ∧ qk_M m) (fun k (a : Int32 × Int32) m => (nI k, a.1, a.2, m)) (fun a m => (nI t, a.1, a.2, m)) G t (-9, qs_fc n t s T o b (2 ^ t - 1)) μ.2 (by omega) ⟨Z1.1, Z1.2.2.2.1⟩ (fun i a m hi hm => by
    have C0 := qv_Cb (i := i) n7 hm.1
    obtain ⟨j1, Z2, G2⟩ := qs_87 (N := N) (w := 2 ^ t - 1) hN (qt_Bb B) C0 (qk_mu (a := 25) (j := i) (v := 0) (by omega) hm.2) (by omega)
    refine ⟨qa_u (ma_87_3 N (nI (2 ^ t - 1)) (qa_u m 25 i 0)).2 25 i (m 25 i), ?_, qv_CF (qk_tm G2) (fun a j h c => by unfold qs_Zw at c; omega) hm.1 n7, qk_mu (by omega) Z2.2.2.2.1⟩
    unfold mc_115_3_p14
    dsimp only [qa_in]
    rw [if_pos (qw_ltT hm.1.2.1 hi (by omega)), qb_n (k := i) (by omega), qs_60p t6 C0.2.1, j1, qb_s, eG]
    rfl) (fun a m hm => by
    unfold mc_115_3_p14
    dsimp only
    rw [if_neg (qw_ltF hm.1.2.1 (by omega))]
    exact ⟨_, rfl, hm⟩)
  have e1' : qa_wh (fun s => s) (mc_115_3_p14 N) N ((0 : Int32), (-9 : Int32), nI (qs_cn n (qs_fb n t T o b (qs_gl n s T) (2 ^ t - 1))), μ.2) = _ := e1
  rw [e1']
  refine ⟨_, rfl, fun τ hP => ?_⟩
  obtain ⟨r1, R, -, F3⟩ := qs_193 (N := N) hN B hP
  have P1 := qv_PF F3 (fun a j h c => by omega) hP
  obtain ⟨ρ, eρ⟩ : ∃ ρ, ρ = ma_193_99 N (qa_u τ 99 9 0) := ⟨_, rfl⟩
  rw [← eρ] at r1 P1 ⊢
  rw [r1]
  obtain ⟨m', d1, -⟩ := qw_lm (e := fun s => s) (step := mc_229_99_p15 N) (N := N) (fun m => qv_P n t s T o b m) (fun k (a : Int32 × Int32) m => (nI k, a.2, a.1, m)) (fun a m => (nI t, a.2, a.1, m)) G t (-9, qs_fc n t s T o b (2 ^ t - 1)) ρ.2 (by omega) P1 (fun i a m hi hm => by
    have P0 := qv_Pb (i := i) hm
    obtain ⟨j1, -, -, G2⟩ := qs_193 (N := N) hN (qt_Bb B) P0
    refine ⟨qa_u (ma_193_99 N (qa_u m 105 i 0)).2 105 i (m 105 i), ?_, qv_PF (qk_tm G2) (fun a j h c => by omega) hm⟩
    unfold mc_229_99_p15
    dsimp only [qa_in]
    rw [if_pos (qw_ltT hm.2.1 hi (by omega)), qb_n (k := i) (by omega), j1, qb_s, eG]
    rfl) (fun a m hm => by
    unfold mc_229_99_p15
    dsimp only
    rw [if_neg (qw_ltF hm.2.1 (by omega))]
    exact ⟨_, rfl, hm⟩)
  have d1' : qa_wh (fun s => s) (mc_229_99_p15 N) N ((0 : Int32), nI (qs_cn n (qs_fb n t T o b (qs_gl n s T) (2 ^ t - 1))), (-9 : Int32), ρ.2) = _ := d1
  rw [d1']
/-! more -/
theorem qr_117 {c v : Nat} (hN : 10 ≤ N) (hB : qv_B n t s T o b) (hC : qv_C n t s T o b σ) (hc : c < n) (hv : v ≤ 9) : (∀ m, m < 4 → ma_117_3 N (nI c) (nI v) σ 95 m = nI (qs_gl n (qs_up s c v) T m)) ∧ qb_F (fun a _ => a = 95) σ (ma_117_3 N (nI c) (nI v) σ) := by
  have n7 := hB.1
  unfold ma_117_3
  dsimp only [qa_in]
  rw [qb_n (k := c) (by omega)]
  have C0 : qv_C n t (qs_up s c v) T o b (qa_u σ 7 c (nI v)) := by
    have F0 : qb_F (fun a _ => a = 7) σ (qa_u σ 7 c (nI v)) := qb_Fu rfl
    refine ⟨(F0 _ _ (by omega)).trans hC.1, (F0 _ _ (by omega)).trans hC.2.1, fun k hk => ?_, fun k m hk hm => (F0 _ _ (by omega)).trans (hC.2.2.2.1 k m hk hm), fun i hi => ⟨(F0 _ _ (by omega)).trans (hC.2.2.2.2 i hi).1, (F0 _ _ (by omega)).trans (hC.2.2.2.2 i hi).2⟩⟩
    rw [qb_uJ]
    unfold qs_up
    by_cases e : k = c
    · rw [if_pos e, e, beq_self_eq_true]; rfl
    · rw [if_neg e, beq_eq_false_iff_ne.mpr e]; exact hC.2.2.1 k hk
  have B0 : qv_B n t (qs_up s c v) T o b := ⟨n7, hB.2.1, fun k hk => by unfold qs_up; have := hB.2.2.1 k hk; split <;> omega, hB.2.2.2.1, hB.2.2.2.2⟩
  obtain ⟨h1, F1⟩ := qs_47 (N := N) (S0 := -1) (w := 0) (a4 := 95) (l1 := 7) (e := fun _ => true) (s1 := qs_up s c v) hN B0 C0 (by omega) (Or.inr rfl) (Or.inl rfl) (fun k hk => ⟨C0.2.2.1 k (by omega), by have := B0.2.2.1 k (by omega); omega⟩) (fun k hk => qs_48e k (by omega))
  have F1' : qb_F (fun a _ => a = 95) (qa_u σ 7 c (nI v)) (ma_47_4 N 7 (-1) 0 95 (qa_u σ 7 c (nI v))) := F1
  refine ⟨fun m hm => ?_, qk_tm F1'⟩
  rw [qb_uA (by omega)]
  exact h1 m hm
theorem qc_116 {xx : Prop} (hN : 5000 ≤ N) (hI : qb_I xx True σ) (hk : qk_M σ) : (ma_116_3 N σ).1 = (ma_230_99 N (ma_116_3 N σ).2).1 := by
  obtain ⟨n, t, s, T, o, b, B, C, P⟩ := qv_get hI
  have F : qb_F qb_sm2 σ (ma_116_3 N σ).2 := qe_116 (by omega)
  suffices h : ∃ v, (ma_116_3 N σ).1 = v ∧ ∀ τ, qv_P n t s T o b (qa_u τ 99 9 0) → (ma_230_99 N τ).1 = v by
    obtain ⟨v, h1, h2⟩ := h
    exact h1.trans (h2 _ (qv_P2 F P)).symm
  have n7 := B.1
  have t6 := B.2.1
  have w64 := qs_2t t6
  have p2 := Nat.two_pow_pos t
  unfold ma_116_3 ma_230_99
  dsimp only [qa_in]
  rw [qs_60p t6 C.2.1]
  obtain ⟨k1, Z1, -⟩ := qs_87 (N := N) (w := 2 ^ t - 1) hN B C hk (by omega)
  obtain ⟨μ, eμ⟩ : ∃ μ, μ = ma_87_3 N (nI (2 ^ t - 1)) σ := ⟨_, rfl⟩
  rw [← eμ] at k1 Z1 ⊢
  rw [k1]
  obtain ⟨G, eG⟩ : ∃ G : Nat → Int32 × Int32 → Int32 × Int32, G = fun c a => (if s c < 9 then (if qs_fc n t (qs_up s c (s c + 1)) T o b (2 ^ t - 1) < a.2 then nI c else a.1) else a.1, if s c < 9 then (if qs_fc n t (qs_up s c (s c + 1)) T o b (2 ^ t - 1) < a.2 then qs_fc n t (qs_up s c (s c + 1)) T o b (2 ^ t - 1) else a.2) else a.2) := ⟨_, rfl⟩
  have BU : ∀ c, s c < 9 → qv_B n t (qs_up s c (s c + 1)) T o b := fun c hc => ⟨n7, t6, fun k hk => by unfold qs_up; have := B.2.2.1 k hk; split <;> omega, B.2.2.2.1, B.2.2.2.2⟩
  obtain ⟨m, e1, -⟩ := qw_lm (e := fun s => s) (step := mc_116_3_p14 N) (N := N) (fun m => qv_C n t s T o b m ∧ qk_M m) (fun k (a : Int32 × Int32) m => (nI k, a.1, a.2, m)) (fun a m => (nI n, a.1, a.2, m)) G n (-9, qs_fc n t s T o b (2 ^ t - 1)) μ.2 (by omega) ⟨Z1.1, Z1.2.2.2.1⟩ (fun c a m hc hm => by
    have s9 := B.2.2.1 c (by omega)
    have sc := hm.1.2.2.1 c (by omega)
    by_cases c9 : s c < 9
    · obtain ⟨q1, F1⟩ := qr_117 (N := N) (c := c) (v := s c + 1) (by omega) B hm.1 hc (by omega)
      have C1 := qv_CF F1 (fun a j h c => by omega) hm.1 n7
      have M1 : qk_M (ma_117_3 N (nI c) (nI (s c + 1)) m) := qk_MF F1 (fun a j r => by unfold qb_rQ at r; omega) hm.2
      obtain ⟨⟨C2, V2, W2, M2, z2⟩, -⟩ := qs_ax (N := N) (w := 2 ^ t - 1) (a2 := 95) (x := qs_gl n (qs_up s c (s c + 1)) T) hN B C1 M1 (Or.inr rfl) (by omega) (fun m hm => ⟨q1 m hm, qs_gll (BU c c9) hm⟩)
      refine ⟨ma_72_3 N (ma_66_3 N (nI (2 ^ t - 1)) 95 (ma_117_3 N (nI c) (nI (s c + 1)) m)), ?_, C2, M2⟩
      unfold mc_116_3_p14
      dsimp only [qa_in]
      have p9 : m 7 c < 9 := by rw [sc]; exact qb_ltT (b := 9) c9 (by omega)
      have e0 : m 7 c + 1 = nI (s c + 1) := by rw [sc, qb_s]
      rw [if_pos (qw_ltT hm.1.1 hc (by omega)), qb_n (k := c) (by omega), if_pos p9, if_pos p9, if_pos p9, e0, qs_60p t6 C1.2.1, qs_75 hN B V2 W2 (fun m hm => qs_gll (BU c c9) hm), qb_s, eG]
      dsimp only
      rw [if_pos c9, if_pos c9]
      rfl
    · refine ⟨m, ?_, hm⟩
      have n9 : ¬ m 7 c < 9 := by rw [sc]; exact qb_ltF (b := 9) (by omega) (by omega)
      unfold mc_116_3_p14
      dsimp only [qa_in]
      rw [if_pos (qw_ltT hm.1.1 hc (by omega)), qb_n (k := c) (by omega), if_neg n9, if_neg n9, if_neg n9, qb_s, eG]
      dsimp only
      rw [if_neg c9, if_neg c9]) (fun a m hm => by
    unfold mc_116_3_p14
    dsimp only
    rw [if_neg (qw_ltF hm.1.1 (by omega))]
    exact ⟨_, rfl, hm⟩)
  have e1' : qa_wh (fun s => s) (mc_116_3_p14 N) N ((0 : Int32), (-9 : Int32), nI (qs_cn n (qs_fb n t T o b (qs_gl n s T) (2 ^ t - 1))), μ.2) = _ := e1
  rw [e1']
  refine ⟨_, rfl, fun τ hP => ?_⟩
  obtain ⟨r1, R, -, F3⟩ := qs_193 (N := N) hN B hP
  have P1 := qv_PF F3 (fun a j h c => by omega) hP
  obtain ⟨ρ, eρ⟩ : ∃ ρ, ρ = ma_193_99 N (qa_u τ 99 9 0) := ⟨_, rfl⟩
  rw [← eρ] at r1 P1 ⊢
  rw [r1]
  obtain ⟨m', d1, -⟩ := qw_lm (e := fun s => s) (step := mc_230_99_p15 N) (N := N) (fun m => qv_P n t s T o b m) (fun k (a : Int32 × Int32) m => (nI k, a.2, a.1, m)) (fun a m => (nI n, a.2, a.1, m)) G n (-9, qs_fc n t s T o b (2 ^ t - 1)) ρ.2 (by omega) P1 (fun c a m hc hm => by
    have s9 := B.2.2.1 c (by omega)
    have sc := hm.2.2.1 c (by omega)
    by_cases c9 : s c < 9
    · have P0 : qv_P n t (qs_up s c (s c + 1)) T o b (qa_u m 103 c (nI (s c + 1))) := by
        have F0 : qb_F (fun a _ => a = 103) m (qa_u m 103 c (nI (s c + 1))) := qb_Fu rfl
        obtain ⟨c1, c2, c3, c4, c5⟩ := hm
        refine ⟨(qb_uA (by omega)).trans c1, (qb_uA (by omega)).trans c2, fun k hk => ?_, fun j hj => ⟨(qb_uA (by omega)).trans (c4 j hj).1, (qb_uA (by omega)).trans (c4 j hj).2⟩, fun c m hc hm => ?_⟩
        · rw [qb_uJ]
          unfold qs_up
          by_cases e : k = c
          · rw [if_pos e, e, beq_self_eq_true]; rfl
          · rw [if_neg e, beq_eq_false_iff_ne.mpr e]; exact c3 k hk
        · rw [← c5 c m hc hm]
          exact qb_Tx (n := n) (fun c _ => qb_uA (by omega)) (fun c _ => qb_uA (by omega)) (fun c m _ _ => qb_uA (by omega)) c m hc hm
      obtain ⟨j1, -, -, G2⟩ := qs_193 (N := N) hN (BU c c9) P0
      have back : (ma_193_99 N (qa_u m 103 c (nI (s c + 1)))).2 103 c - 1 = m 103 c := by
        rw [G2 103 c (by omega), qb_uE, sc, show (1 : Int32) = nI 1 from rfl, qw_sub (by omega)]
        exact congrArg nI (by omega)
      refine ⟨qa_u (ma_193_99 N (qa_u m 103 c (nI (s c + 1)))).2 103 c (m 103 c), ?_, qv_PF (qk_tm G2) (fun a j h c => by omega) hm⟩
      have p9 : m 103 c < 9 := by rw [sc]; exact qb_ltT (b := 9) c9 (by omega)
      have e0 : m 103 c + 1 = nI (s c + 1) := by rw [sc, qb_s]
      unfold mc_230_99_p15
      dsimp only [qa_in]
      rw [if_pos (qw_ltT hm.1 hc (by omega)), qb_n (k := c) (by omega), if_pos p9, if_pos p9, if_pos p9, e0, back, j1, qb_s, eG]
      dsimp only
      rw [if_pos c9, if_pos c9]
      rfl
    · refine ⟨m, ?_, hm⟩
      have n9 : ¬ m 103 c < 9 := by rw [sc]; exact qb_ltF (b := 9) (by omega) (by omega)
      unfold mc_230_99_p15
      dsimp only [qa_in]
      rw [if_pos (qw_ltT hm.1 hc (by omega)), qb_n (k := c) (by omega), if_neg n9, if_neg n9, if_neg n9, qb_s, eG]
      dsimp only
      rw [if_neg c9, if_neg c9]) (fun a m hm => by
    unfold mc_230_99_p15
    dsimp only
    rw [if_neg (qw_ltF hm.1 (by omega))]
    exact ⟨_, rfl, hm⟩)
  have d1' : qa_wh (fun s => s) (mc_230_99_p15 N) N ((0 : Int32), nI (qs_cn n (qs_fb n t T o b (qs_gl n s T) (2 ^ t - 1))), (-9 : Int32), ρ.2) = _ := d1
  rw [d1']
end QR
