/-! cask, taster; judge leaves what holds -/
theorem qb_I9 {xx yy : Prop} {σ : qa_S} (hI : qb_I xx yy σ) : qb_I xx yy (qa_u σ 99 9 0) := qb_IF (w := fun a j => a = 99 ∧ j = 9) (fun a j h => qb_uN (by omega)) (fun a j r => by unfold qb_rI qb_rA qb_rB qb_rC qb_rE qb_rW qb_rX qb_rY qb_rQ at r; omega) hI
theorem qb_alK {xx yy : Prop} {σ : qa_S} (hI : qb_I xx yy σ) {c : Nat} (hc : c < 7) : σ 5 c = σ 100 c ∧ σ 6 c = σ 101 c ∧ σ 7 c = σ 103 c ∧ ∀ m, m < 4 → σ (9 + c) m = σ 102 (4 * c + m) := by
  have a1 := hI.1.1 (2 + 3 * c) (by omega)
  have a2 := hI.1.1 (3 + 3 * c) (by omega)
  have a3 := hI.1.1 (4 + 3 * c) (by omega)
  unfold qb_gc qb_gm at a1 a2 a3
  rw [qb_cK hc, qb_mK c hc] at a1
  rw [qb_cG hc, qb_mG c hc] at a2
  rw [qb_cS hc, qb_mS c hc] at a3
  refine ⟨a1, a2, a3, fun m hm => ?_⟩
  have a4 := hI.1.1 (23 + 4 * c + m) (by omega)
  unfold qb_gc qb_gm at a4
  rw [qb_cM hc hm, qb_mM c hc m hm] at a4
  exact a4
theorem qb_alT {xx yy : Prop} {σ : qa_S} (hI : qb_I xx yy σ) {t : Nat} (ht : t < 6) : σ 24 t = σ 104 t ∧ σ 25 t = σ 105 t ∧ σ 26 t = σ 106 t := by
  have a1 := hI.1.1 (51 + 3 * t) (by omega)
  have a2 := hI.1.1 (52 + 3 * t) (by omega)
  have a3 := hI.1.1 (53 + 3 * t) (by omega)
  unfold qb_gc qb_gm at a1 a2 a3
  rw [qb_cO ht, qb_mO t ht] at a1
  rw [qb_cB ht, qb_mB t ht] at a2
  rw [qb_cY ht, qb_mY t ht] at a3
  exact ⟨a1, a2, a3⟩
theorem qc_31 {xx yy : Prop} {σ : qa_S} (hI : qb_I xx yy σ) (a b : Int32) : (ma_31_3 a b σ).1 = (ma_169_99 a b (ma_31_3 a b σ).2).1 ∧ qb_I xx yy (ma_169_99 a b (ma_31_3 a b σ).2).2 := by
  obtain ⟨n, n7, n1, n2, n3⟩ := qb_An hI.1
  have z : (0 : Int32).toInt = 0 := by decide
  have k6 : (6 : Int32).toInt = 6 := by decide
  have q4 : ∀ τ : qa_S, τ 99 0 = σ 99 0 → (ma_22_4 a σ = 0 ↔ ma_163_99 a (qa_u τ 99 9 0) = 0) := fun τ h => by rw [qb_22 n7 n1, qb_163 n7 ((qb_uN (by omega)).trans (h.trans n2))]
  have q6 : ma_158 b.toInt64 0 6 = 0 ↔ ¬ (0 ≤ b.toInt ∧ b.toInt ≤ 6) := by rw [qb_158z, qb_l, show (0 : Int64).toInt = 0 by decide, show (6 : Int64).toInt = 6 by decide]
  by_cases h0 : ma_22_4 a σ = 0
  · have e1 : ma_31_3 a b σ = (-1, qb_rf 1 σ) := by unfold ma_31_3; rw [if_pos h0]; dsimp only [qa_in]; rw [qb_9_1]; rfl
    have e2 : ma_169_99 a b (qb_rf 1 σ) = (-1, qb_rg 1 (qb_rf 1 σ)) := by
      have q := (q4 (qb_rf 1 σ) qb_rf0).mp h0
      unfold ma_169_99
      dsimp only [qa_in]
      rw [if_pos q, if_pos q, qb_152_1]
      rfl
    rw [e1]
    dsimp only
    rw [e2]
    exact ⟨rfl, qb_rfI hI⟩
  have rng : (b < 0 ∨ 6 < b) → ma_31_3 a b σ = (-2, qb_rf 2 σ) := by
    intro h
    unfold ma_31_3
    rw [if_neg h0]
    dsimp only [qa_in]
    by_cases h1 : b < 0
    · rw [if_pos h1, qb_9_2]; rfl
    · rw [if_neg h1, if_pos (h.resolve_left h1), qb_9_2]; rfl
  by_cases hb : 0 ≤ b.toInt ∧ b.toInt ≤ 6
  · have h1 : ¬ b < 0 := fun c => by rw [Int32.lt_iff_toInt_lt] at c; omega
    have h2 : ¬ 6 < b := fun c => by rw [Int32.lt_iff_toInt_lt] at c; omega
    have hc := Decidable.not_not.mp (fun h => h0 ((qb_22 n7 n1).mpr h))
    obtain ⟨u, hu, hun⟩ : ∃ u : Nat, a = nI u ∧ u < n := ⟨a.toInt.toNat, q53_nI hc.1, by omega⟩
    obtain ⟨v, hv, hv6⟩ : ∃ v : Nat, b = nI v ∧ v ≤ 6 := ⟨b.toInt.toNat, q53_nI hb.1, by omega⟩
    subst hu
    obtain ⟨l1, l2, l3, l4⟩ := qb_alK hI (c := u) (by omega)
    have q := fun c => h0 ((q4 σ rfl).mpr c)
    have e1 : ∃ x, ma_31_3 (nI u) b σ = (x, σ) ∧ ma_169_99 (nI u) b σ = (x, qa_u σ 99 9 0) := by
      unfold ma_31_3 ma_169_99
      dsimp only [qa_in]
      rw [if_neg h0, if_neg h1, if_neg h2, if_neg q, if_neg (fun c => q6.mp c hb), qb_n (k := u) (by omega), qb_uA (by omega), qb_uA (by omega), qb_uA (by omega), qb_uA (by omega)]
      by_cases c0 : b = 0
      · rw [if_pos c0, if_pos c0, l1]; exact ⟨_, rfl, rfl⟩
      rw [if_neg c0, if_neg c0]
      by_cases c1 : b = 1
      · rw [if_pos c1, if_pos c1, l2]; exact ⟨_, rfl, rfl⟩
      rw [if_neg c1, if_neg c1]
      by_cases c6 : b = 6
      · rw [if_pos c6, if_pos c6, l3]; exact ⟨_, rfl, rfl⟩
      rw [if_neg c6, if_neg c6]
      have v0 : v ≠ 0 := fun e => c0 (by rw [hv, e]; rfl)
      have v1 : v ≠ 1 := fun e => c1 (by rw [hv, e]; rfl)
      have v6 : v ≠ 6 := fun e => c6 (by rw [hv, e]; rfl)
      have i2 : (nI v - 2).toNatClampNeg = v - 2 := by
        have : ∀ v, v ≤ 6 → 2 ≤ v → (nI v - 2).toNatClampNeg = v - 2 := by decide
        exact this v hv6 (by omega)
      have i4 : ((4 : Int32) * nI u + nI v - 2).toNatClampNeg = 4 * u + (v - 2) := by
        have : ∀ u, u < 7 → ∀ v, v ≤ 6 → 2 ≤ v → ((4 : Int32) * nI u + nI v - 2).toNatClampNeg = 4 * u + (v - 2) := by decide
        exact this u (by omega) v hv6 (by omega)
      rw [hv, i2, i4, l4 (v - 2) (by omega)]
      exact ⟨_, rfl, rfl⟩
    obtain ⟨x, e1, e2⟩ := e1
    rw [e1]
    dsimp only
    rw [e2]
    exact ⟨rfl, qb_I9 hI⟩
  · have e1 := rng (by
      by_cases h1 : b.toInt < 0
      · exact Or.inl (Int32.lt_iff_toInt_lt.mpr (by omega))
      · exact Or.inr (Int32.lt_iff_toInt_lt.mpr (by omega)))
    have e2 : ma_169_99 a b (qb_rf 2 σ) = (-2, qb_rg 2 (qb_rf 2 σ)) := by
      have q := fun c => h0 ((q4 (qb_rf 2 σ) qb_rf0).mpr c)
      unfold ma_169_99
      dsimp only [qa_in]
      rw [if_neg q, if_neg q, if_pos (q6.mpr hb), qb_152_2]
      rfl
    rw [e1]
    dsimp only
    rw [e2]
    exact ⟨rfl, qb_rfI hI⟩
theorem qc_32 {xx yy : Prop} {σ : qa_S} (hI : qb_I xx yy σ) (a b : Int32) : (ma_32_3 a b σ).1 = (ma_170_99 a b (ma_32_3 a b σ).2).1 ∧ qb_I xx yy (ma_170_99 a b (ma_32_3 a b σ).2).2 := by
  obtain ⟨n, n6, n1, n2, n3⟩ := qb_At hI.1
  have z : (0 : Int32).toInt = 0 := by decide
  have k1 : (1 : Int32).toInt = 1 := by decide
  have k2 : (2 : Int32).toInt = 2 := by decide
  have q4 : ∀ τ : qa_S, τ 99 5 = σ 99 5 → (ma_33_4 a σ = 0 ↔ ma_171_99 a (qa_u τ 99 9 0) = 0) := fun τ h => by rw [qb_33 (by omega) n1, qb_171 (by omega) ((qb_uN (by omega)).trans (h.trans n2))]
  have q6 : ma_158 b.toInt64 0 2 = 0 ↔ ¬ (0 ≤ b.toInt ∧ b.toInt ≤ 2) := by rw [qb_158z, qb_l, show (0 : Int64).toInt = 0 by decide, show (2 : Int64).toInt = 2 by decide]
  by_cases h0 : ma_33_4 a σ = 0
  · have e1 : ma_32_3 a b σ = (-1, qb_rf 1 σ) := by unfold ma_32_3; rw [if_pos h0]; dsimp only [qa_in]; rw [qb_9_1]; rfl
    have e2 : ma_170_99 a b (qb_rf 1 σ) = (-1, qb_rg 1 (qb_rf 1 σ)) := by
      have q := (q4 (qb_rf 1 σ) qb_rf0).mp h0
      unfold ma_170_99
      dsimp only [qa_in]
      rw [if_pos q, if_pos q, qb_152_1]
      rfl
    rw [e1]
    dsimp only
    rw [e2]
    exact ⟨rfl, qb_rfI hI⟩
  have hc := Decidable.not_not.mp (fun h => h0 ((qb_33 (by omega) n1).mpr h))
  obtain ⟨u, hu, hun⟩ : ∃ u : Nat, a = nI u ∧ u < n := ⟨a.toInt.toNat, q53_nI hc.1, by omega⟩
  subst hu
  obtain ⟨l1, l2, l3⟩ := qb_alT hI (t := u) (by omega)
  by_cases hb : 0 ≤ b.toInt ∧ b.toInt ≤ 2
  · have q := fun c => h0 ((q4 σ rfl).mpr c)
    have e1 : ∃ x, ma_32_3 (nI u) b σ = (x, σ) ∧ ma_170_99 (nI u) b σ = (x, qa_u σ 99 9 0) := by
      unfold ma_32_3 ma_170_99
      dsimp only [qa_in]
      rw [if_neg h0, if_neg q, if_neg (fun c => q6.mp c hb), qb_n (k := u) (by omega), qb_uA (by omega), qb_uA (by omega), qb_uA (by omega)]
      by_cases c0 : b = 0
      · rw [if_pos c0, if_pos c0, l1]; exact ⟨_, rfl, rfl⟩
      rw [if_neg c0, if_neg c0]
      by_cases c1 : b = 1
      · rw [if_pos c1, if_pos c1, l2]; exact ⟨_, rfl, rfl⟩
      rw [if_neg c1, if_neg c1]
      have c2 : b = 2 := by
        have d0 : b.toInt ≠ 0 := fun e => c0 (Int32.toInt_inj.mp (e.trans z.symm))
        have d1 : b.toInt ≠ 1 := fun e => c1 (Int32.toInt_inj.mp (e.trans k1.symm))
        exact Int32.toInt_inj.mp (by omega)
      rw [if_pos c2, l3]
      exact ⟨_, rfl, rfl⟩
    obtain ⟨x, e1, e2⟩ := e1
    rw [e1]
    dsimp only
    rw [e2]
    exact ⟨rfl, qb_I9 hI⟩
  · have e1 : ma_32_3 (nI u) b σ = (-2, qb_rf 2 σ) := by
      unfold ma_32_3
      rw [if_neg h0, if_neg (fun c => hb (by rw [c]; decide)), if_neg (fun c => hb (by rw [c]; decide)), if_neg (fun c => hb (by rw [c]; decide))]
      dsimp only [qa_in]
      rw [qb_9_2]
      rfl
    have e2 : ma_170_99 (nI u) b (qb_rf 2 σ) = (-2, qb_rg 2 (qb_rf 2 σ)) := by
      have q := fun c => h0 ((q4 (qb_rf 2 σ) qb_rf0).mpr c)
      unfold ma_170_99
      dsimp only [qa_in]
      rw [if_neg q, if_neg q, if_pos (q6.mpr hb), qb_152_2]
      rfl
    rw [e1]
    dsimp only
    rw [e2]
    exact ⟨rfl, qb_rfI hI⟩
/-- judge: what holds -/
theorem qe_141 {σ : qa_S} {N : Nat} (hN : 5000 ≤ N) (hI : qb_I False False σ) (a : Int32) : qb_I False False (ma_248_99 N a (ma_141_3 N a σ).2).2 := by
  have hq : ma_26 a = 0 ↔ ma_165 a = 0 := by rw [qb_26z, qb_165]
  by_cases h0 : ma_26 a = 0
  · have e1 : (ma_141_3 N a σ).2 = (ma_9_3 (-1) σ).2 := by unfold ma_141_3; rw [if_pos h0]; rfl
    have e2 : ∀ τ, (ma_248_99 N a τ).2 = (ma_152_99 (-1) (qa_u τ 99 9 0)).2 := by intro τ; unfold ma_248_99; dsimp only [qa_in]; rw [if_pos (hq.mp h0)]
    rw [e1, e2]
    refine qb_scI (mf_152_99 (N := N) qb_hw (qb_hm (by omega)) (qb_scu ?_ (Or.inl qb_q99))) hI
    exact mf_9_3 (N := N) qb_hw (qb_hm (by omega)) qb_Fr
  · have F1 : qb_F (fun a j => qb_sm2 a j ∨ (a = 3 ∧ j = 16)) σ (ma_141_3 N a σ).2 := by
      unfold ma_141_3
      rw [if_neg h0]
      dsimp only [qa_in]
      have h1 := mg_141_3_p18 (P := fun z => qb_F qb_sm2 σ z) (N := N) (n := N) (l1 := a) (s := (0, -9, σ)) qb_hw (qb_hm (by omega)) qb_Fr
      exact qb_Ft h1 (qb_Fu (w := fun a j => a = 3 ∧ j = 16) ⟨rfl, rfl⟩) (fun _ _ h => Or.inl h) (fun _ _ h => Or.inr h)
    have z1 : (ma_141_3 N a σ).2 3 16 = 0 := by
      unfold ma_141_3
      rw [if_neg h0]
      dsimp only [qa_in]
      rw [qb_uE]
    obtain ⟨τ, eτ⟩ : ∃ τ, τ = (ma_141_3 N a σ).2 := ⟨_, rfl⟩
    rw [← eτ] at F1 z1 ⊢
    have F2 : qb_F qb_sm2 (qa_u (qa_u τ 99 9 0) 99 35 0) (ma_248_99 N a τ).2 := by
      unfold ma_248_99
      dsimp only [qa_in]
      rw [if_neg (fun c => h0 (hq.mpr c))]
      have h1 : qb_F qb_sm2 (qa_u (qa_u τ 99 9 0) 99 35 0) (ma_180_99 N (qa_u (qa_u τ 99 9 0) 99 35 0)) := mf_180_99 qb_hw (qb_hm (by omega)) qb_Fr
      exact qb_csP (P := fun (z : Int32 × qa_S) => qb_F qb_sm2 (qa_u (qa_u τ 99 9 0) 99 35 0) z.2) (fun _ _ => h1) (fun _ _ => h1)
    obtain ⟨iA, iB, iC, iE, ⟨w1, w2, w3⟩, iX, iY, iQ⟩ := hI
    have F : qb_F (fun a j => qb_sm2 a j ∨ (a = 3 ∧ j = 16) ∨ (a = 99 ∧ (j = 9 ∨ j = 35))) σ (ma_248_99 N a τ).2 := fun x j h => by
      obtain ⟨h1, h2⟩ := not_or.mp h
      rw [F2 x j h1, qb_uN (by omega), qb_uN (by omega)]
      exact F1 x j (fun c => c.elim h1 (fun e => h2 (Or.inl e)))
    have hm := fun i hi => qb_Am (i := i) F (fun a j r => by unfold qb_rM at r; unfold qb_sm2 qb_sc; omega) hi
    refine ⟨qb_AF F (fun a j r => by unfold qb_rA at r; unfold qb_sm2 qb_sc; omega) iA, qb_BF F (fun a j r => by unfold qb_rB at r; unfold qb_sm2 qb_sc; omega) iB, qb_CF F (fun a j r => by unfold qb_rC at r; unfold qb_sm2 qb_sc; omega) iC, qb_EF F (fun a j r => by unfold qb_rE at r; unfold qb_sm2 qb_sc; omega) hm iE, ⟨⟨0, by omega, ?_⟩, ?_, fun i hi => ?_⟩, fun h => h.elim, qb_YF F (fun a j r => by unfold qb_rY at r; unfold qb_sm2 qb_sc; omega) iA hm iY, fun h => h.elim⟩
    · rw [F2 3 16 (by unfold qb_sm2 qb_sc; omega), qb_uN (by omega), qb_uN (by omega)]; exact z1
    · rw [F2 3 16 (by unfold qb_sm2 qb_sc; omega), qb_uN (by omega), qb_uN (by omega), z1, F2 99 35 (by unfold qb_sm2 qb_sc; omega), qb_uE]
    · rw [F 92 i (by unfold qb_sm2 qb_sc; omega), F 122 i (by unfold qb_sm2 qb_sc; omega)]; exact w3 i hi
