/-! image, restore, row, clear, share, mark, kind, back -/
theorem qc_145 {xx yy : Prop} {σ : qa_S} {N : Nat} (hN : 5000 ≤ N) (hI : qb_I xx yy σ) : (ma_145_3 N σ).1 = (ma_166_99 N  (ma_145_3 N σ).2).1 ∧ qb_I xx yy (ma_166_99 N  (ma_145_3 N σ).2).2 := by
  have hI0 := hI
  obtain ⟨iA, iB, iC, iE, iW, iX, iY, iQ⟩ := hI
  obtain ⟨a1, a2⟩ := qb_12_27_4 (σ := σ) (N := N) (by omega)
  obtain ⟨τ, eτ⟩ : ∃ τ, τ = qa_u (ma_12_27_4 N σ) 3 17 1 := ⟨_, rfl⟩
  have e1 : ma_145_3 N σ = (τ 4 0, τ) := by simp only [ma_145_3, qa_in]; rw [← eτ]
  rw [e1]
  dsimp only
  obtain ⟨b1, b2⟩ := qb_159_118T (σ := qa_u (qa_u τ 99 9 0) 99 26 1) (N := N) (by omega)
  obtain ⟨ρ, eρ⟩ : ∃ ρ, ρ = ma_159_99_118 N 1 (qa_u (qa_u τ 99 9 0) 99 26 1) := ⟨_, rfl⟩
  have e2 : ma_166_99 N τ = (ρ 99 0, ρ) := by simp only [ma_166_99, qa_in]; rw [← eρ]
  rw [e2]
  rw [← eρ] at b1 b2
  have hF : qb_F (fun a j => ((a = 27 ∧ j < 2) ∨ (28 ≤ a ∧ a ≤ 30) ∨ (32 ≤ a ∧ a ≤ 38) ∨ (47 ≤ a ∧ a ≤ 49)) ∨ (a = 3 ∧ j = 17) ∨ (a = 99 ∧ (j = 9 ∨ j = 26 ∨ (27 ≤ j ∧ j ≤ 29))) ∨ a = 118) σ ρ := fun a j h => by
    rw [b2 a j (by omega), qb_uN (by omega), qb_uN (by omega), eτ, qb_uN (by omega)]
    exact a2 a j (by omega)
  have hm := fun i hi => qb_Am (i := i) hF (fun a j r => by unfold qb_rM at r; omega) hi
  have s118 : ∀ i, i < 69 → ρ 118 i = qb_gm σ i := fun i hi => by
    rw [b1 i hi]
    exact qb_mF (w := fun a j => ((a = 27 ∧ j < 2) ∨ (28 ≤ a ∧ a ≤ 30) ∨ (32 ≤ a ∧ a ≤ 38) ∨ (47 ≤ a ∧ a ≤ 49)) ∨ (a = 3 ∧ j = 17) ∨ (a = 99 ∧ (j = 9 ∨ j = 26))) (fun a j h => by rw [qb_uN (by omega), qb_uN (by omega), eτ, qb_uN (by omega)]; exact a2 a j (by omega)) (fun b j hb => by omega) hi
  refine ⟨?_, qb_AF hF (fun a j r => by unfold qb_rA at r; omega) iA, ⟨fun i hi => ?_, qb_Dx s118 iA.2, ?_⟩, qb_CF hF (fun a j r => by unfold qb_rC at r; omega) iC, qb_EF hF (fun a j r => by unfold qb_rE at r; omega) hm iE, qb_WF hF (fun a j r => by unfold qb_rW at r; omega) iW, (fun hx => qb_XF hF (fun a j r => by unfold qb_rX at r; omega) (iX hx)), qb_YF hF (fun a j r => by unfold qb_rY at r; omega) iA hm iY, (fun hx => qb_QF hF (fun a j r => by unfold qb_rQ at r; omega) (iQ hx))⟩
  · dsimp only
    rw [hF 99 0 (by omega), eτ, qb_uN (by omega), a2 4 0 (by omega)]
    exact iA.1 0 (by omega)
  · dsimp only
    rw [s118 i hi, ← iA.1 i hi, ← a1 i hi]
    exact qb_cF (w := fun a j => (a = 3 ∧ j = 17) ∨ a = 99 ∨ a = 118) (fun a j h => by rw [b2 a j (by omega), qb_uN (by omega), qb_uN (by omega), eτ, qb_uN (by omega)]) (fun b j hb => by omega) hi
  · dsimp only
    rw [b2 3 17 (by omega), qb_uN (by omega), qb_uN (by omega), eτ, qb_uE, b2 99 26 (by omega), qb_uE]
theorem qc_146 {xx yy : Prop} {σ : qa_S} {N : Nat} (hN : 5000 ≤ N) (hI : qb_I xx yy σ) : (ma_146_3 N σ).1 = (ma_167_99 N  (ma_146_3 N σ).2).1 ∧ qb_I xx yy (ma_167_99 N  (ma_146_3 N σ).2).2 := by
  have hI0 := hI
  obtain ⟨iA, iB, iC, iE, iW, iX, iY, iQ⟩ := hI0
  by_cases h0 : σ 3 17 = 0
  · have d2 : ∀ τ, τ = qb_rf 3 σ → qa_u τ 99 9 0 99 26 = 0 := fun τ h => by rw [qb_uN (by omega), h]; unfold qb_rf; rw [qb_uA (by omega), ← iB.2.2]; exact h0
    have e1 : ma_146_3 N σ = ((-3 : Int32), qb_rf 3 σ) := by simp only [ma_146_3, qa_in, h0, if_true, qb_9_3] <;> rfl
    have e2 : ∀ τ, τ = qb_rf 3 σ → ma_167_99 N τ = ((-3 : Int32), qb_rg 3 τ) := by intro τ h; simp only [ma_167_99, qa_in, d2 τ h, if_true, qb_152_3] <;> rfl
    rw [e1]
    dsimp only
    rw [e2 _ rfl]
    exact ⟨rfl, qb_rfI hI⟩
  · obtain ⟨a1, a2⟩ := qb_12_4_27 (σ := σ) (N := N) (by omega)
    have a1' : ∀ i, i < 69 → qb_gc 4 (ma_12_4_27 N σ) i = σ 118 i := fun i hi => (a1 i hi).trans (iB.1 i hi)
    obtain ⟨b1, b2, b3, b4, b5⟩ := qb_27 (N := N) (by omega) a1' iB.2.1
    obtain ⟨τ, eτ⟩ : ∃ τ, τ = ma_27_3 N (ma_12_4_27 N σ) := ⟨_, rfl⟩
    rw [← eτ] at b1 b2 b3 b4 b5
    have e1 : ma_146_3 N σ = (τ 4 0, τ) := by simp only [ma_146_3, qa_in, h0, if_false]; rw [← eτ]
    rw [e1]
    dsimp only
    have mF : qb_F (fun a j => ((a = 4 ∧ j < 2) ∨ (5 ≤ a ∧ a ≤ 7) ∨ (9 ≤ a ∧ a ≤ 15) ∨ (24 ≤ a ∧ a ≤ 26)) ∨ (17 ≤ a ∧ a < 24) ∨ (a = 3 ∧ j = 18) ∨ (a = 85 ∧ j = 0) ∨ (a = 99 ∧ j = 9)) σ (qa_u τ 99 9 0) := fun a j h => by rw [qb_uN (by omega), b5 a j (by omega), a2 a j (by omega)]
    have d2 : ¬ qa_u τ 99 9 0 99 26 = 0 := by rw [mF 99 26 (by omega), ← iB.2.2]; exact h0
    obtain ⟨f1, f2⟩ := qb_159_118U (σ := qa_u τ 99 9 0) (N := N) (by omega)
    obtain ⟨ρ, eρ⟩ : ∃ ρ, ρ = qa_u (ma_159_99_118 N 0 (qa_u τ 99 9 0)) 99 32 0 := ⟨_, rfl⟩
    have rF : qb_F (fun a j => (a = 99 ∧ (j = 0 ∨ j = 5 ∨ j = 32 ∨ (27 ≤ j ∧ j ≤ 29))) ∨ (100 ≤ a ∧ a ≤ 106)) (qa_u τ 99 9 0) ρ := fun a j h => by rw [eρ, qb_uN (by omega)]; exact f2 a j (by omega)
    have rm : ∀ i, i < 69 → qb_gm ρ i = σ 118 i := fun i hi => by
      rw [← mF 118 i (by omega), ← f1 i hi, eρ]
      exact qb_mF (w := fun a j => a = 99 ∧ j = 32) (fun a j h => qb_uN (by omega)) (fun b j hb => by omega) hi
    have e2 : ma_167_99 N τ = (ρ 99 0, ρ) := by simp only [ma_167_99, qa_in, d2, if_false]; rw [← eρ]
    rw [e2]
    have all : qb_F (fun a j => ((a = 4 ∧ j < 2) ∨ (5 ≤ a ∧ a ≤ 7) ∨ (9 ≤ a ∧ a ≤ 15) ∨ (24 ≤ a ∧ a ≤ 26)) ∨ (17 ≤ a ∧ a < 24) ∨ (a = 3 ∧ j = 18) ∨ (a = 85 ∧ j = 0) ∨ (a = 99 ∧ (j = 9 ∨ j = 0 ∨ j = 5 ∨ j = 32 ∨ (27 ≤ j ∧ j ≤ 29))) ∨ (100 ≤ a ∧ a ≤ 106)) σ ρ := qb_Ft mF rF (fun _ _ h => by omega) (fun _ _ h => by omega)
    have tρ : qb_F (fun a j => (a = 99 ∧ (j = 9 ∨ j = 0 ∨ j = 5 ∨ j = 32 ∨ (27 ≤ j ∧ j ≤ 29))) ∨ (100 ≤ a ∧ a ≤ 106)) τ ρ := fun a j h => by rw [rF a j (by omega), qb_uN (by omega)]
    refine ⟨?_, ?_⟩
    · dsimp only
      exact (b1 0 (by omega)).trans (rm 0 (by omega)).symm
    · dsimp only
      refine qb_fin hI all (fun a j r => by unfold qb_rB qb_rC qb_rW qb_rX at r; omega) ⟨fun i hi => ?_, qb_Dx rm iB.2.1⟩ ?_ ?_ (fun c m hc hm => ?_) ?_
      · rw [rm i hi, ← b1 i hi]
        exact qb_cF tρ (fun b j hb => by omega) hi
      · rw [tρ 85 0 (by omega)]; exact b4
      · rw [eρ, qb_uE]
      · rw [rm 0 (by omega)] at hc
        have hn : (σ 118 0).toInt ≤ 7 := (iB.2.1 0 (by omega)).2
        rw [tρ (17 + c) m (by omega), b2 c m hc hm]
        exact qb_TVx (fun i hi => (rm i hi).symm) (by omega) hm
      · rw [tρ 3 18 (by omega)]; exact b3
theorem qc_140 {xx yy : Prop} {σ : qa_S} (hI : qb_I xx yy σ) (a : Int32) : (ma_140_3 a σ).1 = (ma_247_99 a (ma_140_3 a σ).2).1 ∧ qb_I xx yy (ma_247_99 a (ma_140_3 a σ).2).2 := by
  by_cases h1 : a < 0
  · have e1 : ma_140_3 a σ = ((-4 : Int32), qb_rf 4 σ) := by simp only [ma_140_3, qa_in, h1, if_true, qb_9_4] <;> rfl
    have e2 : ∀ τ, ma_247_99 a τ = ((-4 : Int32), qb_rg 4 τ) := by intro τ; simp only [ma_247_99, qa_in, h1, if_true, qb_152_4, qb_n4, if_true, if_false] <;> rfl
    rw [e1, e2]
    exact ⟨rfl, qb_rfI hI⟩
  by_cases h2 : 99 < a
  · have e1 : ma_140_3 a σ = ((-6 : Int32), qb_rf 6 σ) := by simp only [ma_140_3, qa_in, h1, h2, if_true, if_false, qb_9_6] <;> rfl
    have e2 : ∀ τ, ma_247_99 a τ = ((-6 : Int32), qb_rg 6 τ) := by intro τ; simp only [ma_247_99, qa_in, h1, h2, if_true, if_false, qb_152_6, qb_n6, if_true, if_false] <;> rfl
    rw [e1, e2]
    exact ⟨rfl, qb_rfI hI⟩
  have hI0 := hI
  obtain ⟨iA, iB, iC, iE, ⟨⟨n, n12, w1⟩, w2, w3⟩, iX, iY, iQ⟩ := hI0
  by_cases h3 : n < 12
  · have d1 : σ 3 16 < (12 : Int32) := by rw [w1]; exact qb_ltT (b := 12) h3 (by omega)
    obtain ⟨τ, eτ⟩ : ∃ τ, τ = qa_u (qa_u σ 92 n a) 3 16 (nI (n + 1)) := ⟨_, rfl⟩
    have e1 : ma_140_3 a σ = (nI (n + 1), τ) := by
      simp only [ma_140_3, qa_in, h1, h2, d1, if_true, if_false]
      rw [w1, qb_n (k := n) (by omega), show qa_u σ 92 n a 3 16 = nI n from (qb_uA (by omega)).trans w1, qb_s, qb_uE, eτ]
    rw [e1]
    dsimp only
    have t35 : τ 99 35 = nI n := by rw [eτ, qb_uA (by omega), qb_uA (by omega), ← w2]; exact w1
    have d2 : ¬ qa_u τ 99 9 0 99 35 = (12 : Int32) := by
      rw [qb_uN (by omega), t35]
      exact fun h => by have := (qb_eq (b := 12) (by omega) (by decide)).mp h; omega
    obtain ⟨ρ, eρ⟩ : ∃ ρ, ρ = qa_u (qa_u (qa_u τ 99 9 0) 122 n a) 99 35 (nI (n + 1)) := ⟨_, rfl⟩
    have e2 : ma_247_99 a τ = (nI (n + 1), ρ) := by
      simp only [ma_247_99, qa_in, h1, h2, d2, if_true, if_false]
      rw [show qa_u τ 99 9 0 99 35 = nI n from (qb_uN (by omega)).trans t35, qb_n (k := n) (by omega), show qa_u (qa_u τ 99 9 0) 122 n a 99 35 = nI n from (qb_uA (by omega)).trans ((qb_uN (by omega)).trans t35), qb_s, qb_uE, eρ]
    rw [e2]
    have hF : qb_F (fun a j => a = 92 ∨ (a = 3 ∧ j = 16) ∨ (a = 99 ∧ (j = 9 ∨ j = 35)) ∨ a = 122) σ ρ := fun a j h => by
      rw [eρ, qb_uN (by omega), qb_uN (by omega), qb_uN (by omega), eτ, qb_uN (by omega), qb_uN (by omega)]
    have hm := fun i hi => qb_Am (i := i) hF (fun a j r => by unfold qb_rM at r; omega) hi
    refine ⟨rfl, qb_AF hF (fun a j r => by unfold qb_rA at r; omega) iA, qb_BF hF (fun a j r => by unfold qb_rB at r; omega) iB, qb_CF hF (fun a j r => by unfold qb_rC at r; omega) iC, qb_EF hF (fun a j r => by unfold qb_rE at r; omega) hm iE, ⟨⟨n + 1, by omega, ?_⟩, ?_, fun i hi => ?_⟩, (fun hx => qb_XF hF (fun a j r => by unfold qb_rX at r; omega) (iX hx)), qb_YF hF (fun a j r => by unfold qb_rY at r; omega) iA hm iY, (fun hx => qb_QF hF (fun a j r => by unfold qb_rQ at r; omega) (iQ hx))⟩
    · dsimp only
      rw [eρ, qb_uN (by omega), qb_uN (by omega), qb_uN (by omega), eτ, qb_uE]
    · dsimp only
      rw [eρ, qb_uN (by omega), qb_uN (by omega), qb_uN (by omega), eτ, qb_uE, qb_uE]
    · dsimp only
      rw [eρ, qb_uN (by omega), qb_uN (by omega), qb_uN (by omega), eτ, qb_uN (by omega), qb_uJ, qb_uN (by omega), qb_uJ, qb_uN (by omega), qb_uN (by omega), qb_uN (by omega)]
      by_cases e : i = n
      · rw [if_pos e, if_pos e]
      · rw [if_neg e, if_neg e]; exact w3 i hi
  · have hn : n = 12 := by omega
    have d1 : ¬ σ 3 16 < (12 : Int32) := by rw [w1, hn]; decide
    have d2 : ∀ τ, τ = qb_rf 6 σ → qa_u τ 99 9 0 99 35 = (12 : Int32) := fun τ h => by rw [qb_uN (by omega), h]; unfold qb_rf; rw [qb_uA (by omega), ← w2, w1, hn]; rfl
    have e1 : ma_140_3 a σ = ((-6 : Int32), qb_rf 6 σ) := by simp only [ma_140_3, qa_in, h1, h2, d1, if_false, qb_9_6] <;> rfl
    have e2 : ∀ τ, τ = qb_rf 6 σ → ma_247_99 a τ = ((-6 : Int32), qb_rg 6 τ) := by intro τ h; simp only [ma_247_99, qa_in, h1, h2, d2 τ h, if_true, if_false, qb_152_6] <;> rfl
    rw [e1]
    dsimp only
    rw [e2 _ rfl]
    exact ⟨rfl, qb_rfI hI⟩
theorem qc_142 {xx yy : Prop} {σ : qa_S} (hI : qb_I xx yy σ) : (ma_142_3 σ).1 = (ma_249_99  (ma_142_3 σ).2).1 ∧ qb_I xx yy (ma_249_99  (ma_142_3 σ).2).2 := by
  obtain ⟨iA, iB, iC, iE, ⟨⟨n, n12, w1⟩, w2, w3⟩, iX, iY, iQ⟩ := hI
  have e1 : ma_142_3 σ = (σ 3 16, qa_u σ 3 16 0) := rfl
  have e2 : ∀ τ, ma_249_99 τ = (qa_u τ 99 9 0 99 35, qa_u (qa_u τ 99 9 0) 99 35 0) := fun τ => rfl
  rw [e1, e2]
  obtain ⟨ρ, eρ⟩ : ∃ ρ, ρ = qa_u (qa_u (qa_u σ 3 16 0) 99 9 0) 99 35 0 := ⟨_, rfl⟩
  dsimp only
  rw [← eρ]
  have hF : qb_F (fun a j => (a = 3 ∧ j = 16) ∨ (a = 99 ∧ (j = 9 ∨ j = 35))) σ ρ := fun a j h => by
    rw [eρ, qb_uN (by omega), qb_uN (by omega), qb_uN (by omega)]
  have hm := fun i hi => qb_Am (i := i) hF (fun a j r => by unfold qb_rM at r; omega) hi
  refine ⟨by rw [qb_uN (by omega), qb_uN (by omega)]; exact w2, qb_AF hF (fun a j r => by unfold qb_rA at r; omega) iA, qb_BF hF (fun a j r => by unfold qb_rB at r; omega) iB, qb_CF hF (fun a j r => by unfold qb_rC at r; omega) iC, qb_EF hF (fun a j r => by unfold qb_rE at r; omega) hm iE, ⟨⟨0, by omega, ?_⟩, ?_, fun i hi => ?_⟩, (fun hx => qb_XF hF (fun a j r => by unfold qb_rX at r; omega) (iX hx)), qb_YF hF (fun a j r => by unfold qb_rY at r; omega) iA hm iY, (fun hx => qb_QF hF (fun a j r => by unfold qb_rQ at r; omega) (iQ hx))⟩
  · rw [eρ, qb_uN (by omega), qb_uN (by omega), qb_uE]; rfl
  · rw [eρ, qb_uN (by omega), qb_uN (by omega), qb_uE, qb_uE]
  · rw [hF 92 i (by omega), hF 122 i (by omega)]; exact w3 i hi
/-- one change more is kept on both sides -/
theorem qb_push {σ τ : qa_S} {k : Nat} {c f x : Int32} (hk : k ≤ 8) (hE : ∀ j, j < k → qb_D (qb_tv σ j) ∧ (0 ≤ (σ 86 j).toInt ∧ (σ 86 j).toInt < (qb_gm σ 0).toInt) ∧ ∀ i, i < 69 → qb_tv σ j i = qb_U (σ 86 j) (σ 87 j) (σ 88 j) (qb_S σ k (j + 1)) i) (hD : qb_D (qb_gm σ)) (h1 : τ 85 0 = nI (qb_kp k + 1)) (h2 : τ 99 32 = nI (qb_kp k + 1)) (h3 : ∀ j, j < qb_kp k → τ 86 j = σ 86 (j + qb_ks k) ∧ τ 87 j = σ 87 (j + qb_ks k) ∧ τ 88 j = σ 88 (j + qb_ks k)) (h4 : τ 86 (qb_kp k) = c ∧ τ 87 (qb_kp k) = f ∧ τ 88 (qb_kp k) = x) (h5 : ∀ j i, j < qb_kp k → i < 69 → qb_tv τ j i = qb_tv σ (j + qb_ks k) i) (h6 : ∀ i, i < 69 → qb_tv τ (qb_kp k) i = qb_gm σ i) (hc : 0 ≤ c.toInt ∧ c.toInt < (qb_gm σ 0).toInt) (h0 : qb_gm τ 0 = qb_gm σ 0) (hU : ∀ i, i < 69 → qb_gm σ i = qb_U c f x (qb_gm τ) i) : qb_iE τ := by
  have kk : qb_kp k + qb_ks k = k ∧ qb_kp k < 8 := by
    unfold qb_kp qb_ks
    by_cases e : k = 8
    · rw [if_pos e, if_pos e]; omega
    · rw [if_neg e, if_neg e]; omega
  refine ⟨qb_kp k + 1, by omega, h1, h2, fun j hj => ?_⟩
  by_cases e : j = qb_kp k
  · subst e
    rw [h4.1, h4.2.1, h4.2.2, h0]
    refine ⟨qb_Dx h6 hD, hc, fun i hi => ?_⟩
    rw [h6 i hi, hU i hi]
    refine qb_Ux (fun i hi => ?_) i hi
    unfold qb_S
    rw [if_neg (by omega)]
  · have hj' : j < qb_kp k := by omega
    obtain ⟨d1, d2, d3⟩ := hE (j + qb_ks k) (by omega)
    rw [(h3 j hj').1, (h3 j hj').2.1, (h3 j hj').2.2, h0]
    refine ⟨qb_Dx (fun i hi => h5 j i hj' hi) d1, d2, fun i hi => ?_⟩
    rw [h5 j i hj' hi, d3 i hi]
    refine qb_Ux (fun i hi => ?_) i hi
    unfold qb_S
    rw [if_pos (show j + 1 < qb_kp k + 1 by omega)]
    by_cases e2 : j + 1 = qb_kp k
    · rw [if_neg (by omega), e2]; exact (h6 i hi).symm
    · rw [if_pos (by omega)]
      have := h5 (j + 1) i (by omega) hi
      rw [show j + 1 + qb_ks k = j + qb_ks k + 1 by omega] at this
      exact this.symm
theorem qb_setset {V : Nat → Int32} {p : Nat} {x : Int32} (i : Nat) : V i = qb_set (qb_set V p x) p (V p) i := by
  unfold qb_set
  by_cases e : i = p
  · rw [if_pos e, e]
  · rw [if_neg e, if_neg e]
theorem qb_175 {v : Int32} : ma_175 v 0 9 = if v < 0 then -4 else if 9 < v then -6 else 0 := rfl
theorem qb_rM_E (a j : Nat) (h : qb_w176 a j) : ¬ qb_rM a j := by unfold qb_w176 at h; unfold qb_rM; omega
