/-! taste, tells, apart -/
section Q3
variable {n t : Nat} {s : Nat → Nat} {T : Nat → Nat → Nat} {o b : Nat → Nat} {σ τ : qa_S} {N : Nat}
theorem qv_P2 (F : qb_F qb_sm2 σ τ) (P : qv_P n t s T o b σ) : qv_P n t s T o b (qa_u τ 99 9 0) := qv_PF (qb_Fu (w := fun a j => a = 99 ∧ j = 9) ⟨rfl, rfl⟩) (fun a j h c => by omega) (qv_PF F (fun a j h c => by unfold qb_sm2 qb_sc at c; omega) P)
theorem qw_22n {u : Nat} (hn : n ≤ 7) (h : σ 4 0 = nI n) (hu : u < n) : ¬ ma_22_4 (nI u) σ = 0 := fun c => (qb_22 hn h).mp c (by rw [nI_toInt (by omega)]; omega)
theorem qw_33n {u : Nat} (hn : t ≤ 6) (h : σ 4 1 = nI t) (hu : u < t) : ¬ ma_33_4 (nI u) σ = 0 := fun c => (qb_33 (by omega) h).mp c (by rw [nI_toInt (by omega)]; omega)
theorem qw_163n {u : Nat} (hn : n ≤ 7) (h : τ 99 0 = nI n) (hu : u < n) : ¬ ma_163_99 (nI u) τ = 0 := fun c => (qb_163 hn h).mp c (by rw [nI_toInt (by omega)]; omega)
theorem qw_n0 {u : Nat} (h : u < 2147483648) : ¬ nI u < (0 : Int32) := qb_ltF (b := 0) (Nat.zero_le u) h
theorem qw_cg (hn : n ≤ 7) (a : Int32) : ((∀ σ : qa_S, σ 4 0 = nI n → ma_44_3 a σ = 0) ∧ (∀ τ : qa_S, τ 99 0 = nI n → ma_158 a.toInt64 (-1) (τ 99 0 - 1).toInt64 = 0)) ∨ ((a = -1 ∨ ∃ u, u < n ∧ a = nI u) ∧ (∀ σ : qa_S, σ 4 0 = nI n → ¬ ma_44_3 a σ = 0) ∧ (∀ τ : qa_S, τ 99 0 = nI n → ¬ ma_158 a.toInt64 (-1) (τ 99 0 - 1).toInt64 = 0)) := by
  have e1 : (-1 : Int64).toInt = -1 := by decide
  have e2 : ∀ n, n ≤ 7 → (nI n - 1).toInt = (n : Int) - 1 := by decide
  have q : ∀ τ : qa_S, τ 99 0 = nI n → (ma_158 a.toInt64 (-1) (τ 99 0 - 1).toInt64 = 0 ↔ ¬ (-1 ≤ a.toInt ∧ a.toInt ≤ (n : Int) - 1)) := fun τ h => by rw [h, qb_158z, qb_l, qb_l, e1, e2 n hn]
  by_cases c : a = -1
  · refine Or.inr ⟨Or.inl c, fun σ h => ?_, fun τ h => ?_⟩
    · unfold ma_44_3; rw [if_pos c]; decide
    · rw [q τ h, c]; have : (-1 : Int32).toInt = -1 := by decide
      omega
  have c' : a.toInt ≠ -1 := fun e => c (Int32.toInt_inj.mp (e.trans (by decide)))
  rcases qw_c hn a with ⟨h1, h2⟩ | ⟨u, hu, hau, h1, h2⟩
  · refine Or.inl ⟨fun σ h => ?_, fun τ h => ?_⟩
    · unfold ma_44_3; rw [if_neg c, if_pos (h1 σ h)]
    · rw [q τ h]; have := (qb_163 hn h).mp (h2 τ h); omega
  · refine Or.inr ⟨Or.inr ⟨u, hu, hau⟩, fun σ h => ?_, fun τ h => ?_⟩
    · unfold ma_44_3; rw [if_neg c, if_neg (h1 σ h)]; decide
    · rw [q τ h, hau, nI_toInt (by omega)]; omega
theorem qc_43 {xx yy : Prop} (hN : 5000 ≤ N) (hI : qb_I xx yy σ) (x1 x2 : Int32) : (ma_43_3 N x1 x2 σ).1 = (ma_179_99 N x1 x2 (ma_43_3 N x1 x2 σ).2).1 := by
  obtain ⟨n, t, s, T, o, b, B, C, P⟩ := qv_get hI
  have F : qb_F qb_sm2 σ (ma_43_3 N x1 x2 σ).2 := mf_43_3 qb_hw (qb_hm (by omega)) qb_Fr
  suffices h : ∃ v, (ma_43_3 N x1 x2 σ).1 = v ∧ ∀ τ, qv_P n t s T o b (qa_u τ 99 9 0) → (ma_179_99 N x1 x2 τ).1 = v by
    obtain ⟨v, h1, h2⟩ := h
    exact h1.trans (h2 _ (qv_P2 F P)).symm
  have n7 := B.1
  unfold ma_43_3 ma_179_99
  dsimp only [qa_in]
  rcases qw_cg n7 x1 with ⟨h1, h2⟩ | ⟨ha, h1, h2⟩
  · rw [if_pos (h1 σ C.1), qb_9_1]
    exact ⟨_, rfl, fun τ hP => by rw [if_pos (h2 _ hP.1)]; rfl⟩
  rw [if_neg (h1 σ C.1)]
  rcases qw_m x2 with ⟨m1, m2⟩ | ⟨m, hm, rfl, m1, m2⟩
  · rw [if_pos m1, qb_9_1]
    exact ⟨_, rfl, fun τ hP => by rw [if_neg (h2 _ hP.1), if_pos m2]; rfl⟩
  rw [if_neg m1]
  unfold ma_45_3
  rcases ha with rfl | ⟨u, hu, rfl⟩
  · rw [if_pos ((qb_22 n7 C.1).mpr (fun h => absurd h.1 (by decide)))]
    dsimp only [qa_in]
    rw [qb_n (k := m) (by omega), (qs_46 (by omega) B C).1 m hm]
    refine ⟨_, rfl, fun τ hP => ?_⟩
    rw [if_neg (h2 _ hP.1), if_neg m2]
    dsimp only
    rw [if_pos (by decide), (qs_180 (by omega) B hP).2.2.1 m hm]
  · rw [if_neg (qw_22n n7 C.1 hu), qb_n (k := u) (by omega), qb_n (k := m) (by omega)]
    dsimp only
    rw [C.2.2.2.1 u m hu hm]
    refine ⟨_, rfl, fun τ hP => ?_⟩
    rw [if_neg (h2 _ hP.1), if_neg m2]
    dsimp only
    rw [if_neg (qw_n0 (by omega)), qb_i4 u (by omega) m hm, (qs_180 (by omega) B hP).1.2.2.2.2 u m hu hm]
theorem qc_49 {xx yy : Prop} (hN : 5000 ≤ N) (hI : qb_I xx yy σ) (x1 x2 x3 : Int32) : (ma_49_3 N x1 x2 x3 σ).1 = (ma_184_99 N x1 x2 x3 (ma_49_3 N x1 x2 x3 σ).2).1 := by
  obtain ⟨n, t, s, T, o, b, B, C, P⟩ := qv_get hI
  have F : qb_F qb_sm2 σ (ma_49_3 N x1 x2 x3 σ).2 := mf_49_3 qb_hw (qb_hm (by omega)) qb_Fr
  suffices h : ∃ v, (ma_49_3 N x1 x2 x3 σ).1 = v ∧ ∀ τ, qv_P n t s T o b (qa_u τ 99 9 0) → (ma_184_99 N x1 x2 x3 τ).1 = v by
    obtain ⟨v, h1, h2⟩ := h
    exact h1.trans (h2 _ (qv_P2 F P)).symm
  have n7 := B.1
  unfold ma_49_3 ma_184_99
  dsimp only [qa_in]
  rcases qw_t B.2.1 x1 with ⟨h1, h2⟩ | ⟨i, hi, rfl, h1, h2⟩
  · rw [if_pos (h1 σ C.2.1), qb_9_1]
    exact ⟨_, rfl, fun τ hP => by rw [if_pos (h2 _ hP.2.1)]; rfl⟩
  rw [if_neg (h1 σ C.2.1)]
  rcases qw_cg n7 x2 with ⟨g1, g2⟩ | ⟨ha, g1, g2⟩
  · rw [if_pos (g1 σ C.1), qb_9_1]
    exact ⟨_, rfl, fun τ hP => by rw [if_neg (h2 _ hP.2.1), if_pos (g2 _ hP.1)]; rfl⟩
  rw [if_neg (g1 σ C.1)]
  rcases qw_m x3 with ⟨m1, m2⟩ | ⟨m, hm, rfl, m1, m2⟩
  · rw [if_pos m1, qb_9_1]
    exact ⟨_, rfl, fun τ hP => by rw [if_neg (h2 _ hP.2.1), if_neg (g2 _ hP.1), if_pos m2]; rfl⟩
  have i6 : i < 6 := by have := B.2.1; omega
  obtain ⟨o15, b9⟩ := B.2.2.2.2 i i6
  rw [if_neg m1, qb_n (k := i) (by omega), (C.2.2.2.2 i i6).1, qs_48 (o i) (by omega) m (by omega)]
  cases hb : (o i).testBit m
  · rw [if_pos qs_b0]
    refine ⟨_, rfl, fun τ hP => ?_⟩
    rw [if_neg (h2 _ hP.2.1), if_neg (g2 _ hP.1), if_neg m2]
    dsimp only
    rw [((qs_180 (by omega) B hP).1.2.2.2.1 i i6).1, qs_185 (o i) (by omega) m (by omega), hb, if_pos qs_b0]
  rw [if_neg (by decide)]
  unfold ma_45_3
  rcases ha with rfl | ⟨u, hu, rfl⟩
  · rw [if_pos ((qb_22 n7 C.1).mpr (fun h => absurd h.1 (by decide)))]
    dsimp only [qa_in]
    rw [qb_n (k := m) (by omega), (qs_46 (by omega) B C).1 m hm, (qs_46 (by omega) B C).2 25 i (by omega), (C.2.2.2.2 i i6).2, qs_50 (qs_gll B hm) b9]
    refine ⟨_, rfl, fun τ hP => ?_⟩
    have R := qs_180 (N := N) (by omega) B hP
    rw [if_neg (h2 _ hP.2.1), if_neg (g2 _ hP.1), if_neg m2]
    dsimp only
    rw [(R.1.2.2.2.1 i i6).1, qs_185 (o i) (by omega) m (by omega), hb, if_neg (by decide), if_pos (by decide), R.2.2.1 m hm, qs_186 (by rw [qb_n (by omega)]; exact (R.1.2.2.2.1 i i6).2) (qs_gll B hm) b9]
  · rw [if_neg (qw_22n n7 C.1 hu), qb_n (k := u) (by omega), qb_n (k := m) (by omega)]
    dsimp only [qa_in]
    rw [C.2.2.2.1 u m hu hm, (C.2.2.2.2 i i6).2, qs_50 (by have := B.2.2.2.1 u m hu hm; omega) b9]
    refine ⟨_, rfl, fun τ hP => ?_⟩
    have R := qs_180 (N := N) (by omega) B hP
    rw [if_neg (h2 _ hP.2.1), if_neg (g2 _ hP.1), if_neg m2]
    dsimp only
    rw [(R.1.2.2.2.1 i i6).1, qs_185 (o i) (by omega) m (by omega), hb, if_neg (by decide), if_neg (qw_n0 (by omega)), qb_i4 u (by omega) m hm, R.1.2.2.2.2 u m hu hm, qs_186 (by rw [qb_n (by omega)]; exact (R.1.2.2.2.1 i i6).2) (by have := B.2.2.2.1 u m hu hm; omega) b9]
theorem qc_51 {xx yy : Prop} (hN : 5000 ≤ N) (hI : qb_I xx yy σ) (x1 x2 x3 : Int32) : (ma_51_3 N x1 x2 x3 σ).1 = (ma_187_99 N x1 x2 x3 (ma_51_3 N x1 x2 x3 σ).2).1 := by
  obtain ⟨n, t, s, T, o, b, B, C, P⟩ := qv_get hI
  have F : qb_F qb_sm2 σ (ma_51_3 N x1 x2 x3 σ).2 := mf_51_3 qb_hw (qb_hm (by omega)) qb_Fr
  suffices h : ∃ v, (ma_51_3 N x1 x2 x3 σ).1 = v ∧ ∀ τ, qv_P n t s T o b (qa_u τ 99 9 0) → (ma_187_99 N x1 x2 x3 τ).1 = v by
    obtain ⟨v, h1, h2⟩ := h
    exact h1.trans (h2 _ (qv_P2 F P)).symm
  have n7 := B.1
  unfold ma_51_3 ma_187_99 ma_52_3
  dsimp only [qa_in]
  rcases qw_t B.2.1 x1 with ⟨h1, h2⟩ | ⟨i, hi, rfl, h1, h2⟩
  · rw [if_pos (h1 σ C.2.1), qb_9_1]
    exact ⟨_, rfl, fun τ hP => by rw [if_pos (h2 _ hP.2.1)]; rfl⟩
  rw [if_neg (h1 σ C.2.1)]
  rcases qw_c n7 x2 with ⟨g1, g2⟩ | ⟨u, hu, rfl, g1, g2⟩
  · rw [if_pos (g1 σ C.1), if_pos rfl, qb_9_1]
    exact ⟨_, rfl, fun τ hP => by rw [if_neg (h2 _ hP.2.1), if_pos (g2 _ hP.1)]; rfl⟩
  rw [if_neg (g1 σ C.1)]
  rcases qw_c n7 x3 with ⟨k1, k2⟩ | ⟨v, hv, rfl, k1, k2⟩
  · rw [if_pos (k1 σ C.1), if_pos rfl, qb_9_1]
    exact ⟨_, rfl, fun τ hP => by rw [if_neg (h2 _ hP.2.1), if_neg (g2 _ hP.1), if_pos (k2 _ hP.1)]; rfl⟩
  rw [if_neg (k1 σ C.1)]
  by_cases huv : nI u = nI v
  · rw [if_pos huv, if_pos rfl, qb_9_1]
    exact ⟨_, rfl, fun τ hP => by rw [if_neg (h2 _ hP.2.1), if_neg (g2 _ hP.1), if_neg (k2 _ hP.1), if_pos huv]; rfl⟩
  rw [if_neg huv, if_neg (by decide), qb_n (k := u) (by omega), qb_n (k := v) (by omega)]
  have i6 : i < 6 := by have := B.2.1; omega
  dsimp only
  rw [qs_53 (by omega) B C i6 (fun m hm => ⟨C.2.2.2.1 u m hu hm, by have := B.2.2.2.1 u m hu hm; omega⟩) (fun m hm => ⟨C.2.2.2.1 v m hv hm, by have := B.2.2.2.1 v m hv hm; omega⟩)]
  refine ⟨_, rfl, fun τ hP => ?_⟩
  rw [if_neg (h2 _ hP.2.1), if_neg (g2 _ hP.1), if_neg (k2 _ hP.1), if_neg huv]
  dsimp only
  rw [qs_188 (by omega) B (qv_181 (by omega) n7 hP).1 i6 hu hv]
end Q3
