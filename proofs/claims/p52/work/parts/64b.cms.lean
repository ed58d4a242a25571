/-! feed, comes, joins, image, restore, row, clear -/
theorem qb_n1 : (-1 : Int32) < 0 := by decide
theorem qb_n2 : (-2 : Int32) < 0 := by decide
theorem qb_n3 : (-3 : Int32) < 0 := by decide
theorem qb_n4 : (-4 : Int32) < 0 := by decide
theorem qb_n5 : (-5 : Int32) < 0 := by decide
theorem qb_n6 : (-6 : Int32) < 0 := by decide
theorem qb_z0 : ¬ (0 : Int32) < 0 := by decide
theorem qc_8 {xx yy : Prop} {σ : qa_S} (hI : qb_I xx yy σ) (a : Int32) : (ma_8_3 a σ).1 = (ma_151_99 a (ma_8_3 a σ).2).1 ∧ qb_I xx yy (ma_151_99 a (ma_8_3 a σ).2).2 := by
  by_cases h1 : a < 0
  · have e1 : ma_8_3 a σ = ((-4 : Int32), qb_rf 4 σ) := by simp only [ma_8_3, qa_in, h1, if_true, qb_9_4] <;> rfl
    have e2 : ∀ τ, ma_151_99 a τ = ((-4 : Int32), qb_rg 4 τ) := by intro τ; simp only [ma_151_99, qa_in, h1, if_true, qb_152_4, qb_n4, if_true, if_false] <;> rfl
    rw [e1, e2]
    exact ⟨rfl, qb_rfI hI⟩
  by_cases h2 : 255 < a
  · have e1 : ma_8_3 a σ = ((-6 : Int32), qb_rf 6 σ) := by simp only [ma_8_3, qa_in, h1, h2, if_true, if_false, qb_9_6] <;> rfl
    have e2 : ∀ τ, ma_151_99 a τ = ((-6 : Int32), qb_rg 6 τ) := by intro τ; simp only [ma_151_99, qa_in, h1, h2, if_true, if_false, qb_152_6, qb_n6, if_true, if_false] <;> rfl
    rw [e1, e2]
    exact ⟨rfl, qb_rfI hI⟩
  obtain ⟨iA, iB, iC, iE, iW, iX, iY, iQ⟩ := hI
  obtain ⟨c1, ⟨n, n96, c2⟩, c3⟩ := iC
  have hI : qb_I xx yy σ := ⟨iA, iB, ⟨c1, ⟨n, n96, c2⟩, c3⟩, iE, iW, iX, iY, iQ⟩
  by_cases h3 : n < 96
  · have d1 : σ 83 0 < (96 : Int32) := by rw [c2]; exact qb_ltT (b := 96) h3 (by omega)
    have e1 : ma_8_3 a σ = (nI (n + 1), qa_u (qa_u σ 84 n a) 83 0 (nI (n + 1))) := by
      simp only [ma_8_3, ma_10_83, qa_in, h1, h2, d1, if_true, if_false]
      rw [c2, qb_n (k := n) (by omega), show qa_u σ 84 n a 83 0 = nI n from (qb_uA (by omega)).trans c2, qb_s, qb_uE]
    rw [e1]
    obtain ⟨τ, eτ⟩ : ∃ τ, τ = qa_u (qa_u σ 84 n a) 83 0 (nI (n + 1)) := ⟨_, rfl⟩
    dsimp only
    rw [← eτ]
    have t17 : τ 99 17 = nI n := by rw [eτ, qb_uA (by omega), qb_uA (by omega), ← c1]; exact c2
    have d2 : ¬ qa_u τ 99 9 0 99 17 = (96 : Int32) := by
      rw [qb_uN (by omega), t17]
      exact fun h => by have := (qb_eq (b := 96) (by omega) (by decide)).mp h; omega
    have e2 : ma_151_99 a τ = (nI (n + 1), qa_u (qa_u (qa_u τ 99 9 0) 113 n a) 99 17 (nI (n + 1))) := by
      simp only [ma_151_99, qa_in, h1, h2, d2, if_true, if_false]
      rw [show qa_u τ 99 9 0 99 17 = nI n from (qb_uN (by omega)).trans t17, qb_n (k := n) (by omega), show qa_u (qa_u τ 99 9 0) 113 n a 99 17 = nI n from (qb_uA (by omega)).trans ((qb_uN (by omega)).trans t17), qb_s, qb_uE]
    rw [e2]
    refine ⟨rfl, ?_⟩
    dsimp only
    have hF : qb_F (fun a j => (a = 84 ∨ (a = 83 ∧ j = 0)) ∨ (a = 99 ∧ (j = 9 ∨ j = 17)) ∨ a = 113) σ (qa_u (qa_u (qa_u τ 99 9 0) 113 n a) 99 17 (nI (n + 1))) := fun a j h => by
      rw [qb_uN (by omega), qb_uN (by omega), qb_uN (by omega), eτ, qb_uN (by omega), qb_uN (by omega)]
    have hm := fun i hi => qb_Am (i := i) hF (fun a j r => by unfold qb_rM at r; omega) hi
    refine ⟨qb_AF hF (fun a j r => by unfold qb_rA at r; omega) iA, qb_BF hF (fun a j r => by unfold qb_rB at r; omega) iB, ⟨?_, ⟨n + 1, by omega, ?_⟩, fun i hi => ?_⟩, qb_EF hF (fun a j r => by unfold qb_rE at r; omega) hm iE, qb_WF hF (fun a j r => by unfold qb_rW at r; omega) iW, (fun hx => qb_XF hF (fun a j r => by unfold qb_rX at r; omega) (iX hx)), qb_YF hF (fun a j r => by unfold qb_rY at r; omega) iA hm iY, (fun hx => qb_QF hF (fun a j r => by unfold qb_rQ at r; omega) (iQ hx))⟩
    · rw [qb_uE, qb_uA (by omega), qb_uA (by omega), qb_uA (by omega), eτ, qb_uE]
    · rw [qb_uA (by omega), qb_uA (by omega), qb_uA (by omega), eτ, qb_uE]
    · rw [qb_uA (by omega), qb_uA (by omega), qb_uA (by omega), eτ, qb_uA (by omega), qb_uJ, qb_uA (by omega), qb_uJ, qb_uA (by omega), qb_uA (by omega), qb_uA (by omega)]
      by_cases e : i = n
      · rw [if_pos e, if_pos e]
      · rw [if_neg e, if_neg e]; exact c3 i hi
  · have hn : n = 96 := by omega
    have d1 : ¬ σ 83 0 < (96 : Int32) := by rw [c2, hn]; decide
    have d2 : ∀ τ, τ = qb_rf 6 σ → qa_u τ 99 9 0 99 17 = (96 : Int32) := fun τ h => by rw [qb_uN (by omega), h]; unfold qb_rf; rw [qb_uA (by omega), ← c1, c2, hn]; rfl
    have e1 : ma_8_3 a σ = ((-6 : Int32), qb_rf 6 σ) := by simp only [ma_8_3, qa_in, h1, h2, d1, if_false, qb_9_6] <;> rfl
    have e2 : ∀ τ, τ = qb_rf 6 σ → ma_151_99 a τ = ((-6 : Int32), qb_rg 6 τ) := by intro τ h; simp only [ma_151_99, qa_in, h1, h2, d2 τ h, if_true, if_false, qb_152_6] <;> rfl
    rw [e1]
    dsimp only
    rw [e2 _ rfl]
    exact ⟨rfl, qb_rfI hI⟩
theorem qc_34 {xx yy : Prop} {σ : qa_S} {N : Nat} (hN : 5000 ≤ N) (hI : qb_I xx yy σ) (a : Int32) (b : Int32) (d : Int32) : (ma_34_3 N a b d σ).1 = (ma_172_99 N a b d (ma_34_3 N a b d σ).2).1 ∧ qb_I xx yy (ma_172_99 N a b d (ma_34_3 N a b d σ).2).2 := by
  have k0 : (0 : Int64).toInt = 0 := by decide
  have k5 : (5 : Int64).toInt = 5 := by decide
  have hk : ma_19 a = 0 ↔ ma_158 a.toInt64 0 5 = 0 := by rw [qb_19, qb_158z, qb_l, k0, k5]
  by_cases h0 : ma_19 a = 0
  · have e1 : ma_34_3 N a b d σ = ((-2 : Int32), qb_rf 2 σ) := by simp only [ma_34_3, qa_in, h0, if_true, qb_9_2] <;> rfl
    have e2 : ∀ τ, ma_172_99 N a b d τ = ((-2 : Int32), qb_rg 2 τ) := by intro τ; simp only [ma_172_99, qa_in, hk.mp h0, if_true, qb_152_2, qb_n2, if_true, if_false] <;> rfl
    rw [e1, e2]
    exact ⟨rfl, qb_rfI hI⟩
  have h0b : ¬ ma_158 a.toInt64 0 5 = 0 := fun h => h0 (hk.mpr h)
  by_cases h1 : b < 0
  · have e1 : ma_34_3 N a b d σ = ((-4 : Int32), qb_rf 4 σ) := by simp only [ma_34_3, qa_in, h0, h1, if_true, if_false, qb_9_4] <;> rfl
    have e2 : ∀ τ, ma_172_99 N a b d τ = ((-4 : Int32), qb_rg 4 τ) := by intro τ; simp only [ma_172_99, qa_in, h0b, h1, if_true, if_false, qb_152_4, qb_n4, if_true, if_false] <;> rfl
    rw [e1, e2]
    exact ⟨rfl, qb_rfI hI⟩
  by_cases h2 : d < 0
  · have e1 : ma_34_3 N a b d σ = ((-4 : Int32), qb_rf 4 σ) := by simp only [ma_34_3, qa_in, h0, h1, h2, if_true, if_false, qb_9_4] <;> rfl
    have e2 : ∀ τ, ma_172_99 N a b d τ = ((-4 : Int32), qb_rg 4 τ) := by intro τ; simp only [ma_172_99, qa_in, h0b, h1, h2, if_true, if_false, qb_152_4, qb_n4, if_true, if_false] <;> rfl
    rw [e1, e2]
    exact ⟨rfl, qb_rfI hI⟩
  by_cases h3 : 9 < b
  · have e1 : ma_34_3 N a b d σ = ((-6 : Int32), qb_rf 6 σ) := by simp only [ma_34_3, qa_in, h0, h1, h2, h3, if_true, if_false, qb_9_6] <;> rfl
    have e2 : ∀ τ, ma_172_99 N a b d τ = ((-6 : Int32), qb_rg 6 τ) := by intro τ; simp only [ma_172_99, qa_in, h0b, h1, h2, h3, if_true, if_false, qb_152_6, qb_n6, if_true, if_false] <;> rfl
    rw [e1, e2]
    exact ⟨rfl, qb_rfI hI⟩
  by_cases h4 : 9999 < d
  · have e1 : ma_34_3 N a b d σ = ((-6 : Int32), qb_rf 6 σ) := by simp only [ma_34_3, qa_in, h0, h1, h2, h3, h4, if_true, if_false, qb_9_6] <;> rfl
    have e2 : ∀ τ, ma_172_99 N a b d τ = ((-6 : Int32), qb_rg 6 τ) := by intro τ; simp only [ma_172_99, qa_in, h0b, h1, h2, h3, h4, if_true, if_false, qb_152_6, qb_n6, if_true, if_false] <;> rfl
    rw [e1, e2]
    exact ⟨rfl, qb_rfI hI⟩
  obtain ⟨n, n7, n1, n2, n3⟩ := qb_An hI.1
  by_cases h5 : n < 7
  · have z : (0 : Int32).toInt = 0 := by decide
    have k9 : (9 : Int32).toInt = 9 := by decide
    have kk := Decidable.not_not.mp (fun h => h0 (qb_19.mpr h))
    rw [Int32.lt_iff_toInt_lt] at h1 h2 h3
    have h1' : ¬ b < 0 := fun h => h1 (Int32.lt_iff_toInt_lt.mp h)
    have h2' : ¬ d < 0 := fun h => h2 (Int32.lt_iff_toInt_lt.mp h)
    have h3' : ¬ 9 < b := fun h => h3 (Int32.lt_iff_toInt_lt.mp h)
    have d1 : σ 4 0 < (7 : Int32) := by rw [n1]; exact qb_ltT (b := 7) h5 (by omega)
    obtain ⟨a1, a2⟩ := qb_20_4 (σ := σ) (V := qb_gm σ) (N := N) (k := a) (f := b) (z := d) (by omega) h5 n1 hI.1.1
    have hD := qb_DaC (k := a) (f := b) (z := d) hI.1.2 h5 kk ⟨by omega, by omega⟩ (show 0 ≤ d.toInt by omega)
    obtain ⟨b1, b2, b3, b4, b5⟩ := qb_27 (N := N) (by omega) a1 hD
    obtain ⟨τ, eτ⟩ : ∃ τ, τ = ma_27_3 N (ma_20_4 N a b d σ) := ⟨_, rfl⟩
    rw [← eτ] at b1 b2 b3 b4 b5
    have t4 : τ 4 0 = nI (n + 1) := b1 0 (by omega)
    have e1 : ma_34_3 N a b d σ = (nI n, τ) := by
      simp only [ma_34_3, qa_in, h0, h1', h2', h3', h4, d1, if_true, if_false]
      rw [← eτ, t4, qb_sm]
    rw [e1]
    dsimp only
    have mF : qb_F (fun a j => ((a = 4 ∧ j = 0) ∨ (5 ≤ a ∧ a ≤ 7) ∨ (9 ≤ a ∧ a ≤ 15)) ∨ (17 ≤ a ∧ a < 24) ∨ (a = 3 ∧ j = 18) ∨ (a = 85 ∧ j = 0) ∨ (a = 99 ∧ j = 9)) σ (qa_u τ 99 9 0) := fun a j h => by rw [qb_uN (by omega), b5 a j (by omega), a2 a j (by omega)]
    have m0 : qa_u τ 99 9 0 99 0 = nI n := (mF 99 0 (by omega)).trans n2
    have d2 : ¬ qa_u τ 99 9 0 99 0 = (7 : Int32) := by rw [m0]; exact fun h => by have := (qb_eq (b := 7) (by omega) (by decide)).mp h; omega
    obtain ⟨f1, f2⟩ := qb_162 (σ := qa_u τ 99 9 0) (V := qb_gm σ) (N := N) (k := a) (f := b) (z := d) (by omega) h5 m0 (fun i hi => qb_mF mF (fun b j hb => by omega) hi)
    obtain ⟨ρ, eρ⟩ : ∃ ρ, ρ = qa_u (ma_162_99 N a b d (qa_u τ 99 9 0)) 99 32 0 := ⟨_, rfl⟩
    have rF : qb_F (fun a j => (a = 99 ∧ (j = 0 ∨ j = 32)) ∨ (100 ≤ a ∧ a ≤ 103)) (qa_u τ 99 9 0) ρ := fun a j h => by rw [eρ, qb_uN (by omega)]; exact f2 a j (by omega)
    have rm : ∀ i, i < 69 → qb_gm ρ i = qb_addC (qb_gm σ) n a b d i := fun i hi => by
      rw [← f1 i hi, eρ]
      exact qb_mF (w := fun a j => a = 99 ∧ j = 32) (fun a j h => qb_uN (by omega)) (fun b j hb => by omega) hi
    have e2 : ma_172_99 N a b d τ = (nI n, ρ) := by
      simp only [ma_172_99, qa_in, h0b, h1', h2', h3', h4, d2, if_true, if_false, qb_z0]
      rw [← eρ, show ρ 99 0 = nI (n + 1) from rm 0 (by omega), qb_sm]
    rw [e2]
    refine ⟨rfl, ?_⟩
    dsimp only
    have all : qb_F (fun a j => ((a = 4 ∧ j = 0) ∨ (5 ≤ a ∧ a ≤ 7) ∨ (9 ≤ a ∧ a ≤ 15)) ∨ (17 ≤ a ∧ a < 24) ∨ (a = 3 ∧ j = 18) ∨ (a = 85 ∧ j = 0) ∨ (a = 99 ∧ (j = 9 ∨ j = 0 ∨ j = 32)) ∨ (100 ≤ a ∧ a ≤ 103)) σ ρ := qb_Ft mF rF (fun _ _ h => by omega) (fun _ _ h => by omega)
    have tρ : qb_F (fun a j => (a = 99 ∧ (j = 9 ∨ j = 0 ∨ j = 32)) ∨ (100 ≤ a ∧ a ≤ 103)) τ ρ := fun a j h => by rw [rF a j (by omega), qb_uN (by omega)]
    refine qb_fin hI all (fun a j r => by unfold qb_rB qb_rC qb_rW qb_rX at r; omega) ⟨fun i hi => ?_, qb_Dx rm hD⟩ ?_ ?_ (fun c m hc hm => ?_) ?_
    · rw [rm i hi, ← b1 i hi]
      exact qb_cF tρ (fun b j hb => by omega) hi
    · rw [tρ 85 0 (by omega)]; exact b4
    · rw [eρ, qb_uE]
    · rw [rm 0 (by omega)] at hc
      have hn : ((qb_addC (qb_gm σ) n a b d) 0).toInt ≤ 7 := (hD 0 (by omega)).2
      rw [tρ (17 + c) m (by omega), b2 c m hc hm]
      exact qb_TVx (fun i hi => (rm i hi).symm) (by omega) hm
    · rw [tρ 3 18 (by omega)]; exact b3
  · have hn : n = 7 := by omega
    have d1 : ¬ σ 4 0 < (7 : Int32) := by rw [n1, hn]; decide
    have d2 : ∀ τ, τ = qb_rf 6 σ → qa_u τ 99 9 0 99 0 = (7 : Int32) := fun τ h => by rw [qb_uN (by omega), h]; unfold qb_rf; rw [qb_uA (by omega), n2, hn]; rfl
    have e1 : ma_34_3 N a b d σ = ((-6 : Int32), qb_rf 6 σ) := by simp only [ma_34_3, qa_in, h0, h1, h2, h3, h4, d1, if_false, qb_9_6] <;> rfl
    have e2 : ∀ τ, τ = qb_rf 6 σ → ma_172_99 N a b d τ = ((-6 : Int32), qb_rg 6 τ) := by intro τ h; simp only [ma_172_99, qa_in, h0b, h1, h2, h3, h4, d2 τ h, if_true, if_false, qb_n6, qb_152_6] <;> rfl
    rw [e1]
    dsimp only
    rw [e2 _ rfl]
    exact ⟨rfl, qb_rfI hI⟩
theorem qc_35 {xx yy : Prop} {σ : qa_S} {N : Nat} (hN : 5000 ≤ N) (hI : qb_I xx yy σ) (a : Int32) (b : Int32) (d : Int32) : (ma_35_3 N a b d σ).1 = (ma_173_99 a b d (ma_35_3 N a b d σ).2).1 ∧ qb_I xx yy (ma_173_99 a b d (ma_35_3 N a b d σ).2).2 := by
  by_cases h1 : a < 1
  · have e1 : ma_35_3 N a b d σ = ((-4 : Int32), qb_rf 4 σ) := by simp only [ma_35_3, qa_in, h1, if_true, if_false, qb_9_4] <;> rfl
    have e2 : ∀ τ, ma_173_99 a b d τ = ((-4 : Int32), qb_rg 4 τ) := by intro τ; simp only [ma_173_99, qa_in, h1, if_true, if_false, qb_152_4, qb_n4, if_true, if_false] <;> rfl
    rw [e1, e2]
    exact ⟨rfl, qb_rfI hI⟩
  by_cases h2 : b < 0
  · have e1 : ma_35_3 N a b d σ = ((-4 : Int32), qb_rf 4 σ) := by simp only [ma_35_3, qa_in, h1, h2, if_true, if_false, qb_9_4] <;> rfl
    have e2 : ∀ τ, ma_173_99 a b d τ = ((-4 : Int32), qb_rg 4 τ) := by intro τ; simp only [ma_173_99, qa_in, h1, h2, if_true, if_false, qb_152_4, qb_n4, if_true, if_false] <;> rfl
    rw [e1, e2]
    exact ⟨rfl, qb_rfI hI⟩
  by_cases h3 : d < 0
  · have e1 : ma_35_3 N a b d σ = ((-4 : Int32), qb_rf 4 σ) := by simp only [ma_35_3, qa_in, h1, h2, h3, if_true, if_false, qb_9_4] <;> rfl
    have e2 : ∀ τ, ma_173_99 a b d τ = ((-4 : Int32), qb_rg 4 τ) := by intro τ; simp only [ma_173_99, qa_in, h1, h2, h3, if_true, if_false, qb_152_4, qb_n4, if_true, if_false] <;> rfl
    rw [e1, e2]
    exact ⟨rfl, qb_rfI hI⟩
  by_cases h4 : 15 < a
  · have e1 : ma_35_3 N a b d σ = ((-6 : Int32), qb_rf 6 σ) := by simp only [ma_35_3, qa_in, h1, h2, h3, h4, if_true, if_false, qb_9_6] <;> rfl
    have e2 : ∀ τ, ma_173_99 a b d τ = ((-6 : Int32), qb_rg 6 τ) := by intro τ; simp only [ma_173_99, qa_in, h1, h2, h3, h4, if_true, if_false, qb_152_6, qb_n6, if_true, if_false] <;> rfl
    rw [e1, e2]
    exact ⟨rfl, qb_rfI hI⟩
  by_cases h5 : 9 < b
  · have e1 : ma_35_3 N a b d σ = ((-6 : Int32), qb_rf 6 σ) := by simp only [ma_35_3, qa_in, h1, h2, h3, h4, h5, if_true, if_false, qb_9_6] <;> rfl
    have e2 : ∀ τ, ma_173_99 a b d τ = ((-6 : Int32), qb_rg 6 τ) := by intro τ; simp only [ma_173_99, qa_in, h1, h2, h3, h4, h5, if_true, if_false, qb_152_6, qb_n6, if_true, if_false] <;> rfl
    rw [e1, e2]
    exact ⟨rfl, qb_rfI hI⟩
  by_cases h6 : 9 < d
  · have e1 : ma_35_3 N a b d σ = ((-6 : Int32), qb_rf 6 σ) := by simp only [ma_35_3, qa_in, h1, h2, h3, h4, h5, h6, if_true, if_false, qb_9_6] <;> rfl
    have e2 : ∀ τ, ma_173_99 a b d τ = ((-6 : Int32), qb_rg 6 τ) := by intro τ; simp only [ma_173_99, qa_in, h1, h2, h3, h4, h5, h6, if_true, if_false, qb_152_6, qb_n6, if_true, if_false] <;> rfl
    rw [e1, e2]
    exact ⟨rfl, qb_rfI hI⟩
  obtain ⟨n, n6, n1, n2, n3⟩ := qb_At hI.1
  by_cases h7 : n < 6
  · have z : (0 : Int32).toInt = 0 := by decide
    have k1 : (1 : Int32).toInt = 1 := by decide
    have k9 : (9 : Int32).toInt = 9 := by decide
    have k15 : (15 : Int32).toInt = 15 := by decide
    have g1 : ¬ a.toInt < 1 := fun h => h1 (Int32.lt_iff_toInt_lt.mpr (by omega))
    have g2 : ¬ b.toInt < 0 := fun h => h2 (Int32.lt_iff_toInt_lt.mpr (by omega))
    have g3 : ¬ d.toInt < 0 := fun h => h3 (Int32.lt_iff_toInt_lt.mpr (by omega))
    have g4 : ¬ 15 < a.toInt := fun h => h4 (Int32.lt_iff_toInt_lt.mpr (by omega))
    have g5 : ¬ 9 < b.toInt := fun h => h5 (Int32.lt_iff_toInt_lt.mpr (by omega))
    have g6 : ¬ 9 < d.toInt := fun h => h6 (Int32.lt_iff_toInt_lt.mpr (by omega))
    have d1 : σ 4 1 < (6 : Int32) := by rw [n1]; exact qb_ltT (b := 6) h7 (by omega)
    obtain ⟨a1, a2⟩ := qb_24_4 (σ := σ) (V := qb_gm σ) (k := a) (f := b) (z := d) h7 n1 hI.1.1
    have hD := qb_DaT (b := a) (l := b) (y := d) hI.1.2 h7 ⟨by omega, by omega⟩ ⟨by omega, by omega⟩ ⟨by omega, by omega⟩
    obtain ⟨b1, b2, b3, b4, b5⟩ := qb_27 (N := N) (by omega) a1 hD
    obtain ⟨τ, eτ⟩ : ∃ τ, τ = ma_27_3 N (ma_24_4 a b d σ) := ⟨_, rfl⟩
    rw [← eτ] at b1 b2 b3 b4 b5
    have t4 : τ 4 1 = nI (n + 1) := b1 1 (by omega)
    have e1 : ma_35_3 N a b d σ = (nI n, τ) := by
      simp only [ma_35_3, qa_in, h1, h2, h3, h4, h5, h6, d1, if_true, if_false]
      rw [← eτ, t4, qb_sm]
    rw [e1]
    dsimp only
    have mF : qb_F (fun a j => ((a = 4 ∧ j = 1) ∨ (24 ≤ a ∧ a ≤ 26)) ∨ (17 ≤ a ∧ a < 24) ∨ (a = 3 ∧ j = 18) ∨ (a = 85 ∧ j = 0) ∨ (a = 99 ∧ j = 9)) σ (qa_u τ 99 9 0) := fun a j h => by rw [qb_uN (by omega), b5 a j (by omega), a2 a j (by omega)]
    have m0 : qa_u τ 99 9 0 99 5 = nI n := (mF 99 5 (by omega)).trans n2
    have d2 : ¬ qa_u τ 99 9 0 99 5 = (6 : Int32) := by rw [m0]; exact fun h => by have := (qb_eq (b := 6) (by omega) (by decide)).mp h; omega
    obtain ⟨f1, f2⟩ := qb_164 (σ := qa_u τ 99 9 0) (V := qb_gm σ) (k := a) (f := b) (z := d) h7 m0 (fun i hi => qb_mF mF (fun b j hb => by omega) hi)
    obtain ⟨ρ, eρ⟩ : ∃ ρ, ρ = qa_u (ma_164_99 a b d (qa_u τ 99 9 0)) 99 32 0 := ⟨_, rfl⟩
    have rF : qb_F (fun a j => (a = 99 ∧ (j = 5 ∨ j = 32)) ∨ (104 ≤ a ∧ a ≤ 106)) (qa_u τ 99 9 0) ρ := fun a j h => by rw [eρ, qb_uN (by omega)]; exact f2 a j (by omega)
    have rm : ∀ i, i < 69 → qb_gm ρ i = qb_addT (qb_gm σ) n a b d i := fun i hi => by
      rw [← f1 i hi, eρ]
      exact qb_mF (w := fun a j => a = 99 ∧ j = 32) (fun a j h => qb_uN (by omega)) (fun b j hb => by omega) hi
    have e2 : ma_173_99 a b d τ = (nI n, ρ) := by
      simp only [ma_173_99, qa_in, h1, h2, h3, h4, h5, h6, d2, if_true, if_false, qb_z0]
      rw [← eρ, show ρ 99 5 = nI (n + 1) from rm 1 (by omega), qb_sm]
    rw [e2]
    refine ⟨rfl, ?_⟩
    dsimp only
    have all : qb_F (fun a j => ((a = 4 ∧ j = 1) ∨ (24 ≤ a ∧ a ≤ 26)) ∨ (17 ≤ a ∧ a < 24) ∨ (a = 3 ∧ j = 18) ∨ (a = 85 ∧ j = 0) ∨ (a = 99 ∧ (j = 9 ∨ j = 5 ∨ j = 32)) ∨ (104 ≤ a ∧ a ≤ 106)) σ ρ := qb_Ft mF rF (fun _ _ h => by omega) (fun _ _ h => by omega)
    have tρ : qb_F (fun a j => (a = 99 ∧ (j = 9 ∨ j = 5 ∨ j = 32)) ∨ (104 ≤ a ∧ a ≤ 106)) τ ρ := fun a j h => by rw [rF a j (by omega), qb_uN (by omega)]
    refine qb_fin hI all (fun a j r => by unfold qb_rB qb_rC qb_rW qb_rX at r; omega) ⟨fun i hi => ?_, qb_Dx rm hD⟩ ?_ ?_ (fun c m hc hm => ?_) ?_
    · rw [rm i hi, ← b1 i hi]
      exact qb_cF tρ (fun b j hb => by omega) hi
    · rw [tρ 85 0 (by omega)]; exact b4
    · rw [eρ, qb_uE]
    · rw [rm 0 (by omega)] at hc
      have hn : ((qb_addT (qb_gm σ) n a b d) 0).toInt ≤ 7 := (hD 0 (by omega)).2
      rw [tρ (17 + c) m (by omega), b2 c m hc hm]
      exact qb_TVx (fun i hi => (rm i hi).symm) (by omega) hm
    · rw [tρ 3 18 (by omega)]; exact b3
  · have hn : n = 6 := by omega
    have d1 : ¬ σ 4 1 < (6 : Int32) := by rw [n1, hn]; decide
    have d2 : ∀ τ, τ = qb_rf 6 σ → qa_u τ 99 9 0 99 5 = (6 : Int32) := fun τ h => by rw [qb_uN (by omega), h]; unfold qb_rf; rw [qb_uA (by omega), n2, hn]; rfl
    have e1 : ma_35_3 N a b d σ = ((-6 : Int32), qb_rf 6 σ) := by simp only [ma_35_3, qa_in, h1, h2, h3, h4, h5, h6, d1, if_false, qb_9_6] <;> rfl
    have e2 : ∀ τ, τ = qb_rf 6 σ → ma_173_99 a b d τ = ((-6 : Int32), qb_rg 6 τ) := by intro τ h; simp only [ma_173_99, qa_in, h1, h2, h3, h4, h5, h6, d2 τ h, if_true, if_false, qb_n6, qb_152_6] <;> rfl
    rw [e1]
    dsimp only
    rw [e2 _ rfl]
    exact ⟨rfl, qb_rfI hI⟩
