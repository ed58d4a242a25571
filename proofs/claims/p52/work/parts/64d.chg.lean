/-! share, mark, kind, back -/
theorem qb_rf0 {σ : qa_S} {c j : Nat} : qb_rf c σ 99 j = σ 99 j := qb_uA (by decide)
theorem qc_36 {xx yy : Prop} {σ : qa_S} {N : Nat} (hN : 5000 ≤ N) (hI : qb_I xx yy σ) (a : Int32) (b : Int32) : (ma_36_3 a b σ).1 = (ma_174_99 N a b (ma_36_3 a b σ).2).1 ∧ qb_I xx yy (ma_174_99 N a b (ma_36_3 a b σ).2).2 := by
  obtain ⟨n, n7, n1, n2, n3⟩ := qb_An hI.1
  have z : (0 : Int32).toInt = 0 := by decide
  have k9 : (9 : Int32).toInt = 9 := by decide
  have q4 : ∀ τ, τ 99 0 = σ 99 0 → (ma_22_4 a σ = 0 ↔ ma_163_99 a (qa_u τ 99 9 0) = 0) := fun τ h => by rw [qb_22 n7 n1, qb_163 n7 ((qb_uN (by omega)).trans (h.trans n2))]
  by_cases h0 : ma_22_4 a σ = 0
  · have e1 : ma_36_3 a b σ = ((-1 : Int32), qb_rf 1 σ) := by unfold ma_36_3; rw [if_pos h0]; dsimp only [qa_in]; rw [qb_9_1]; rfl
    have e2 : ∀ τ, τ 99 0 = σ 99 0 → ma_174_99 N a b τ = ((-1 : Int32), qb_rg 1 τ) := by intro τ h; have q := q4 τ h; unfold ma_174_99; dsimp only [qa_in]; rw [if_pos (q.mp h0), if_pos qb_n1, qb_152_1]; rfl
    rw [e1]
    dsimp only
    rw [e2 _ qb_rf0]
    exact ⟨rfl, qb_rfI hI⟩
  by_cases h1 : b < 0
  · have e1 : ma_36_3 a b σ = ((-4 : Int32), qb_rf 4 σ) := by unfold ma_36_3; rw [if_neg h0, if_pos h1]; dsimp only [qa_in]; rw [qb_9_4]; rfl
    have e2 : ∀ τ, τ 99 0 = σ 99 0 → ma_174_99 N a b τ = ((-4 : Int32), qb_rg 4 τ) := by intro τ h; have q := q4 τ h; unfold ma_174_99; dsimp only [qa_in]; rw [if_neg (fun c => h0 (q.mpr c)), qb_175, if_pos h1, if_pos qb_n4, qb_152_4]; rfl
    rw [e1]
    dsimp only
    rw [e2 _ qb_rf0]
    exact ⟨rfl, qb_rfI hI⟩
  by_cases h2 : 9 < b
  · have e1 : ma_36_3 a b σ = ((-6 : Int32), qb_rf 6 σ) := by unfold ma_36_3; rw [if_neg h0, if_neg h1, if_pos h2]; dsimp only [qa_in]; rw [qb_9_6]; rfl
    have e2 : ∀ τ, τ 99 0 = σ 99 0 → ma_174_99 N a b τ = ((-6 : Int32), qb_rg 6 τ) := by intro τ h; have q := q4 τ h; unfold ma_174_99; dsimp only [qa_in]; rw [if_neg (fun c => h0 (q.mpr c)), qb_175, if_neg h1, if_pos h2, if_pos qb_n6, qb_152_6]; rfl
    rw [e1]
    dsimp only
    rw [e2 _ qb_rf0]
    exact ⟨rfl, qb_rfI hI⟩
  have hc := Decidable.not_not.mp (fun h => h0 ((qb_22 n7 n1).mpr h))
  have g1 : ¬ b.toInt < 0 := fun h => h1 (Int32.lt_iff_toInt_lt.mpr (by omega))
  have g2 : ¬ 9 < b.toInt := fun h => h2 (Int32.lt_iff_toInt_lt.mpr (by omega))
  obtain ⟨u, hu, hun⟩ : ∃ u : Nat, a = nI u ∧ u < n := ⟨a.toInt.toNat, q53_nI hc.1, by omega⟩
  subst hu
  have hI0 := hI
  obtain ⟨iA, iB, iC, iE, iW, iX, iY, iQ⟩ := hI0
  obtain ⟨k, k8, k1, k2, k3⟩ := iE
  obtain ⟨c1, c2, c3, c4⟩ := qb_37 (σ := σ) (c := nI u) (f := (-1 : Int32)) (w := (σ 7 u)) k8 k1
  have c4 : qb_F (fun a j => (86 ≤ a ∧ a ≤ 88) ∨ (a = 85 ∧ j = 0)) σ _ := c4
  obtain ⟨ρ0, er0⟩ : ∃ ρ0, ρ0 = qa_u (ma_37_85 (nI u) (-1 : Int32) (σ 7 u) σ) 7 u b := ⟨_, rfl⟩
  have cV0 : ∀ i, i < 69 → qb_gc 4 (ma_37_85 (nI u) (-1 : Int32) (σ 7 u) σ) i = qb_gm σ i := fun i hi => (qb_cF c4 (fun b j hb => by omega) hi).trans (iA.1 i hi)
  have cV : ∀ i, i < 69 → qb_gc 4 ρ0 i = (qb_set (qb_gm σ) (4 + 3 * u) b) i := by rw [er0]; exact qb_cs cV0 (by omega) (qb_cS (by omega))
  have hD : qb_D (qb_set (qb_gm σ) (4 + 3 * u) b) := qb_Ds iA.2 (by rw [qb_hS (by omega)]; omega)
  have rF0 : qb_F (fun a j => ((86 ≤ a ∧ a ≤ 88) ∨ (a = 85 ∧ j = 0)) ∨ a = 7) σ ρ0 := fun a j h => by
    rw [er0, qb_uA (by omega)]
    exact c4 a j (by omega)
  obtain ⟨τ, eτ⟩ : ∃ τ, τ = ρ0 := ⟨_, rfl⟩
  have b1 : ∀ i, i < 69 → qb_gc 4 τ i = (qb_set (qb_gm σ) (4 + 3 * u) b) i := by rw [eτ]; exact cV
  have b4 : qb_F (fun _ _ => False) ρ0 τ := by rw [eτ]; exact qb_Fr
  have e1 : ma_36_3 (nI u) b σ = (σ 7 u, τ) := by
    unfold ma_36_3
    rw [if_neg h0, if_neg h1, if_neg h2]
    dsimp only [qa_in]
    rw [qb_n (k := u) (by omega), ← er0, ← eτ]
  rw [e1]
  dsimp only
  have tF : qb_F (fun a j => ((86 ≤ a ∧ a ≤ 88) ∨ (a = 85 ∧ j = 0)) ∨ a = 7) σ τ := qb_Ft rF0 b4 (fun _ _ h => by omega) (fun _ _ h => h.elim)
  have t0 : τ 99 0 = nI n := (tF 99 0 (by omega)).trans n2
  have m32 : qa_u τ 99 9 0 99 32 = nI k := by rw [qb_uN (by omega), tF 99 32 (by omega)]; exact k2
  obtain ⟨d1, d2, d3, d4⟩ := qb_176 (σ := qa_u τ 99 9 0) (N := N) (by omega) k8 m32
  have d4 : qb_F (fun a j => a = 119 ∨ a = 120 ∨ (a = 99 ∧ (j = 32 ∨ (27 ≤ j ∧ j ≤ 29)))) _ _ := d4
  obtain ⟨ρ, eρ⟩ : ∃ ρ, ρ = qa_u (ma_176_99 N (qa_u τ 99 9 0)) 103 u b := ⟨_, rfl⟩
  have mF : qb_F (fun a j => ((86 ≤ a ∧ a ≤ 88) ∨ (a = 85 ∧ j = 0)) ∨ a = 7 ∨ (a = 99 ∧ j = 9)) σ (qa_u τ 99 9 0) := fun a j h => by rw [qb_uN (by omega)]; exact tF a j (by omega)
  have rV0 : ∀ i, i < 69 → qb_gm (ma_176_99 N (qa_u τ 99 9 0)) i = qb_gm σ i := fun i hi => (qb_mF d4 (fun b j hb => by omega) hi).trans (qb_mF mF (fun b j hb => by omega) hi)
  have rV : ∀ i, i < 69 → qb_gm ρ i = (qb_set (qb_gm σ) (4 + 3 * u) b) i := by rw [eρ]; exact qb_ms rV0 (by omega) (qb_mS u (by omega))
  have rF : qb_F (fun a j => (a = 119 ∨ a = 120 ∨ (a = 99 ∧ (j = 32 ∨ (27 ≤ j ∧ j ≤ 29)))) ∨ a = 103 ∨ (a = 99 ∧ j = 9)) τ ρ := fun a j h => by
    rw [eρ, qb_uA (by omega), d4 a j (by omega), qb_uN (by omega)]
  have q := q4 τ (t0.trans n2.symm)
  have h0b : ¬ ma_163_99 (nI u) (qa_u τ 99 9 0) = 0 := fun c => h0 (q.mpr c)
  have pw : (σ 7 u) = qb_gm σ (4 + 3 * u) := by
    have := iA.1 (4 + 3 * u) (by omega)
    unfold qb_gc at this
    rw [(qb_cS (by omega))] at this
    exact this
  have rw0 : ma_176_99 N (qa_u τ 99 9 0) 103 u = (σ 7 u) := by
    rw [pw, ← rV0 (4 + 3 * u) (by omega)]
    unfold qb_gm
    rw [(qb_mS u (by omega))]
  have e2 : ma_174_99 N (nI u) b τ = (σ 7 u, ρ) := by
    unfold ma_174_99
    dsimp only [qa_in]
    rw [if_neg h0b, qb_175, if_neg h1, if_neg h2, if_neg qb_z0]
    rw [qb_n (k := u) (by omega), rw0, ← eρ]
  have hU : ∀ i, i < 69 → qb_gm σ i = qb_U (nI u) (-1 : Int32) (σ 7 u) (qb_gm ρ) i := by
    intro i hi
    rw [qb_Ux rV i hi]
    unfold qb_U
    rw [if_pos rfl]
    rw [qb_n (k := u) (by omega), pw]
    exact qb_setset i
  rw [e2]
  have all : qb_F (fun a j => ((86 ≤ a ∧ a ≤ 88) ∨ (a = 85 ∧ j = 0)) ∨ a = 7 ∨ (a = 119 ∨ a = 120 ∨ (a = 99 ∧ (j = 32 ∨ (27 ≤ j ∧ j ≤ 29)))) ∨ a = 103 ∨ (a = 99 ∧ j = 9)) σ ρ := qb_Ft tF rF (fun _ _ h => by omega) (fun _ _ h => by omega)
  have g0 : qb_gm ρ 0 = qb_gm σ 0 := by
    rw [rV 0 (by omega)]
    unfold qb_set
    rw [if_neg (by omega)]
  refine ⟨rfl, ?_⟩
  dsimp only
  refine qb_finE hI all (fun a j r => by unfold qb_rB qb_rC qb_rW qb_rX at r; omega) ⟨fun i hi => ?_, qb_Dx rV hD⟩ (qb_push (c := nI u) (f := (-1 : Int32)) (x := (σ 7 u)) k8 k3 iA.2 ?_ ?_ (fun j hj => ?_) ?_ (fun j i hj hi => ?_) (fun i hi => ?_) ⟨hc.1, by rw [n3]; exact hc.2⟩ g0 hU) ?_ ?_
  · rw [rV i hi, ← b1 i hi]
    exact qb_cF rF (fun b j hb => by omega) hi
  · rw [rF 85 0 (by omega), b4 85 0 (fun h => h), er0, qb_uA (by omega)]; exact c1
  · rw [eρ, qb_uA (by omega)]; exact d1
  · rw [rF 86 j (by omega), rF 87 j (by omega), rF 88 j (by omega), b4 86 j (fun h => h), b4 87 j (fun h => h), b4 88 j (fun h => h), er0, qb_uA (by omega), qb_uA (by omega), qb_uA (by omega)]
    exact c2 j hj
  · rw [rF 86 _ (by omega), rF 87 _ (by omega), rF 88 _ (by omega), b4 86 _ (fun h => h), b4 87 _ (fun h => h), b4 88 _ (fun h => h), er0, qb_uA (by omega), qb_uA (by omega), qb_uA (by omega)]
    exact c3
  · have := d2 j i hj hi
    unfold qb_tv at this ⊢
    rw [eρ, qb_uA (by omega), this]
    exact mF 119 _ (by omega)
  · have := d3 i hi
    unfold qb_tv at this ⊢
    rw [eρ, qb_uA (by omega), this]
    exact qb_mF mF (fun b j hb => by omega) hi
  · intro c m hc' hm'
    rw [g0] at hc'
    rw [all (17 + c) m (by have h7 := n3; omega)]
    rw [iY c m hc' hm']
    have hK : ∀ e, e < 7 → qb_gm ρ (2 + 3 * e) = qb_gm σ (2 + 3 * e) := fun e he => by rw [rV _ (by omega)]; unfold qb_set; rw [if_neg (by omega)]
    have hG : ∀ e, e < 7 → qb_gm ρ (3 + 3 * e) = qb_gm σ (3 + 3 * e) := fun e he => by rw [rV _ (by omega)]; unfold qb_set; rw [if_neg (by omega)]
    have hR : ∀ e m, e < 7 → m < 4 → qb_gm ρ (23 + 4 * e + m) = qb_gm σ (23 + 4 * e + m) := fun e m he hm => by rw [rV _ (by omega)]; unfold qb_set; rw [if_neg (by omega)]
    exact (qb_Tx (n := 7) hK hG hR c m (by omega) hm').symm
  · exact fun hx => qb_QF all (fun a j r => by unfold qb_rQ at r; omega) (iQ hx)
theorem qc_39 {xx yy : Prop} {σ : qa_S} {N : Nat} (hN : 5000 ≤ N) (hI : qb_I xx yy σ) (a : Int32) (b : Int32) (d : Int32) : (ma_39_3 N a b d σ).1 = (ma_177_99 N a b d (ma_39_3 N a b d σ).2).1 ∧ qb_I xx yy (ma_177_99 N a b d (ma_39_3 N a b d σ).2).2 := by
  obtain ⟨n, n7, n1, n2, n3⟩ := qb_An hI.1
  have z : (0 : Int32).toInt = 0 := by decide
  have k9 : (9 : Int32).toInt = 9 := by decide
  have q4 : ∀ τ, τ 99 0 = σ 99 0 → (ma_22_4 a σ = 0 ↔ ma_163_99 a (qa_u τ 99 9 0) = 0) := fun τ h => by rw [qb_22 n7 n1, qb_163 n7 ((qb_uN (by omega)).trans (h.trans n2))]
  by_cases h0 : ma_22_4 a σ = 0
  · have e1 : ma_39_3 N a b d σ = ((-1 : Int32), qb_rf 1 σ) := by unfold ma_39_3; rw [if_pos h0]; dsimp only [qa_in]; rw [qb_9_1]; rfl
    have e2 : ∀ τ, τ 99 0 = σ 99 0 → ma_177_99 N a b d τ = ((-1 : Int32), qb_rg 1 τ) := by intro τ h; have q := q4 τ h; unfold ma_177_99; dsimp only [qa_in]; rw [if_pos (q.mp h0), if_pos qb_n1, qb_152_1]; rfl
    rw [e1]
    dsimp only
    rw [e2 _ qb_rf0]
    exact ⟨rfl, qb_rfI hI⟩
  have hm : ma_26 b = 0 ↔ ma_165 b = 0 := by rw [qb_26z, qb_165]
  by_cases h7 : ma_26 b = 0
  · have e1 : ma_39_3 N a b d σ = ((-1 : Int32), qb_rf 1 σ) := by unfold ma_39_3; rw [if_neg h0, if_pos h7]; dsimp only [qa_in]; rw [qb_9_1]; rfl
    have e2 : ∀ τ, τ 99 0 = σ 99 0 → ma_177_99 N a b d τ = ((-1 : Int32), qb_rg 1 τ) := by intro τ h; have q := q4 τ h; unfold ma_177_99; dsimp only [qa_in]; rw [if_neg (fun c => h0 (q.mpr c)), if_pos (hm.mp h7), if_pos qb_n1, qb_152_1]; rfl
    rw [e1]
    dsimp only
    rw [e2 _ qb_rf0]
    exact ⟨rfl, qb_rfI hI⟩
  have h7b : ¬ ma_165 b = 0 := fun c => h7 (hm.mpr c)
  by_cases h1 : d < 0
  · have e1 : ma_39_3 N a b d σ = ((-4 : Int32), qb_rf 4 σ) := by unfold ma_39_3; rw [if_neg h0, if_neg h7, if_pos h1]; dsimp only [qa_in]; rw [qb_9_4]; rfl
    have e2 : ∀ τ, τ 99 0 = σ 99 0 → ma_177_99 N a b d τ = ((-4 : Int32), qb_rg 4 τ) := by intro τ h; have q := q4 τ h; unfold ma_177_99; dsimp only [qa_in]; rw [if_neg (fun c => h0 (q.mpr c)), if_neg h7b, qb_175, if_pos h1, if_pos qb_n4, qb_152_4]; rfl
    rw [e1]
    dsimp only
    rw [e2 _ qb_rf0]
    exact ⟨rfl, qb_rfI hI⟩
  by_cases h2 : 9 < d
  · have e1 : ma_39_3 N a b d σ = ((-6 : Int32), qb_rf 6 σ) := by unfold ma_39_3; rw [if_neg h0, if_neg h7, if_neg h1, if_pos h2]; dsimp only [qa_in]; rw [qb_9_6]; rfl
    have e2 : ∀ τ, τ 99 0 = σ 99 0 → ma_177_99 N a b d τ = ((-6 : Int32), qb_rg 6 τ) := by intro τ h; have q := q4 τ h; unfold ma_177_99; dsimp only [qa_in]; rw [if_neg (fun c => h0 (q.mpr c)), if_neg h7b, qb_175, if_neg h1, if_pos h2, if_pos qb_n6, qb_152_6]; rfl
    rw [e1]
    dsimp only
    rw [e2 _ qb_rf0]
    exact ⟨rfl, qb_rfI hI⟩
  have hc := Decidable.not_not.mp (fun h => h0 ((qb_22 n7 n1).mpr h))
  have g1 : ¬ d.toInt < 0 := fun h => h1 (Int32.lt_iff_toInt_lt.mpr (by omega))
  have g2 : ¬ 9 < d.toInt := fun h => h2 (Int32.lt_iff_toInt_lt.mpr (by omega))
  obtain ⟨u, hu, hun⟩ : ∃ u : Nat, a = nI u ∧ u < n := ⟨a.toInt.toNat, q53_nI hc.1, by omega⟩
  subst hu
  have hI0 := hI
  obtain ⟨iA, iB, iC, iE, iW, iX, iY, iQ⟩ := hI0
  obtain ⟨k, k8, k1, k2, k3⟩ := iE
  obtain ⟨m, hb, hm4⟩ := qb_26 h7
  subst hb
  obtain ⟨c1, c2, c3, c4⟩ := qb_37 (σ := σ) (c := nI u) (f := (nI m)) (w := (σ (9 + u) m)) k8 k1
  have c4 : qb_F (fun a j => (86 ≤ a ∧ a ≤ 88) ∨ (a = 85 ∧ j = 0)) σ _ := c4
  obtain ⟨ρ0, er0⟩ : ∃ ρ0, ρ0 = qa_u (ma_37_85 (nI u) (nI m) (σ (9 + u) m) σ) (9 + u) m d := ⟨_, rfl⟩
  have cV0 : ∀ i, i < 69 → qb_gc 4 (ma_37_85 (nI u) (nI m) (σ (9 + u) m) σ) i = qb_gm σ i := fun i hi => (qb_cF c4 (fun b j hb => by omega) hi).trans (iA.1 i hi)
  have cV : ∀ i, i < 69 → qb_gc 4 ρ0 i = (qb_set (qb_gm σ) (23 + 4 * u + m) d) i := by rw [er0]; exact qb_cs cV0 (by omega) (qb_cM (by omega) hm4)
  have hD : qb_D (qb_set (qb_gm σ) (23 + 4 * u + m) d) := qb_Ds iA.2 (by rw [qb_hM (by omega) hm4]; omega)
  have rF0 : qb_F (fun a j => ((86 ≤ a ∧ a ≤ 88) ∨ (a = 85 ∧ j = 0)) ∨ (9 ≤ a ∧ a ≤ 15)) σ ρ0 := fun a j h => by
    rw [er0, qb_uA (by omega)]
    exact c4 a j (by omega)
  obtain ⟨b1, b2, b3, b4⟩ := qb_28 (σ := ρ0) (N := N) (by omega) cV hD
  obtain ⟨τ, eτ⟩ : ∃ τ, τ = ma_28_3 N ρ0 := ⟨_, rfl⟩
  rw [← eτ] at b1 b2 b3 b4
  have e1 : ma_39_3 N (nI u) (nI m) d σ = (σ (9 + u) m, τ) := by
    unfold ma_39_3
    rw [if_neg h0, if_neg h7, if_neg h1, if_neg h2]
    dsimp only [qa_in]
    rw [qb_n (k := u) (by omega), qb_n (k := m) (by omega), ← er0, ← eτ]
  rw [e1]
  dsimp only
  have tF : qb_F (fun a j => ((86 ≤ a ∧ a ≤ 88) ∨ (a = 85 ∧ j = 0)) ∨ (9 ≤ a ∧ a ≤ 15) ∨ (17 ≤ a ∧ a < 24) ∨ (a = 3 ∧ j = 18)) σ τ := qb_Ft rF0 b4 (fun _ _ h => by omega) (fun _ _ h => by omega)
  have t0 : τ 99 0 = nI n := (tF 99 0 (by omega)).trans n2
  have m32 : qa_u τ 99 9 0 99 32 = nI k := by rw [qb_uN (by omega), tF 99 32 (by omega)]; exact k2
  obtain ⟨d1, d2, d3, d4⟩ := qb_176 (σ := qa_u τ 99 9 0) (N := N) (by omega) k8 m32
  have d4 : qb_F (fun a j => a = 119 ∨ a = 120 ∨ (a = 99 ∧ (j = 32 ∨ (27 ≤ j ∧ j ≤ 29)))) _ _ := d4
  obtain ⟨ρ, eρ⟩ : ∃ ρ, ρ = qa_u (ma_176_99 N (qa_u τ 99 9 0)) 102 (4 * u + m) d := ⟨_, rfl⟩
  have mF : qb_F (fun a j => ((86 ≤ a ∧ a ≤ 88) ∨ (a = 85 ∧ j = 0)) ∨ (9 ≤ a ∧ a ≤ 15) ∨ (17 ≤ a ∧ a < 24) ∨ (a = 3 ∧ j = 18) ∨ (a = 99 ∧ j = 9)) σ (qa_u τ 99 9 0) := fun a j h => by rw [qb_uN (by omega)]; exact tF a j (by omega)
  have rV0 : ∀ i, i < 69 → qb_gm (ma_176_99 N (qa_u τ 99 9 0)) i = qb_gm σ i := fun i hi => (qb_mF d4 (fun b j hb => by omega) hi).trans (qb_mF mF (fun b j hb => by omega) hi)
  have rV : ∀ i, i < 69 → qb_gm ρ i = (qb_set (qb_gm σ) (23 + 4 * u + m) d) i := by rw [eρ]; exact qb_ms rV0 (by omega) (qb_mM u (by omega) m hm4)
  have rF : qb_F (fun a j => (a = 119 ∨ a = 120 ∨ (a = 99 ∧ (j = 32 ∨ (27 ≤ j ∧ j ≤ 29)))) ∨ a = 102 ∨ (a = 99 ∧ j = 9)) τ ρ := fun a j h => by
    rw [eρ, qb_uA (by omega), d4 a j (by omega), qb_uN (by omega)]
  have q := q4 τ (t0.trans n2.symm)
  have h0b : ¬ ma_163_99 (nI u) (qa_u τ 99 9 0) = 0 := fun c => h0 (q.mpr c)
  have pw : (σ (9 + u) m) = qb_gm σ (23 + 4 * u + m) := by
    have := iA.1 (23 + 4 * u + m) (by omega)
    unfold qb_gc at this
    rw [(qb_cM (by omega) hm4)] at this
    exact this
  have rw0 : ma_176_99 N (qa_u τ 99 9 0) 102 (4 * u + m) = (σ (9 + u) m) := by
    rw [pw, ← rV0 (23 + 4 * u + m) (by omega)]
    unfold qb_gm
    rw [(qb_mM u (by omega) m hm4)]
  have e2 : ma_177_99 N (nI u) (nI m) d τ = (σ (9 + u) m, ρ) := by
    unfold ma_177_99
    dsimp only [qa_in]
    rw [if_neg h0b, if_neg h7b, qb_175, if_neg h1, if_neg h2, if_neg qb_z0]
    rw [qb_i4 u (by omega) m hm4, rw0, ← eρ]
  have hU : ∀ i, i < 69 → qb_gm σ i = qb_U (nI u) (nI m) (σ (9 + u) m) (qb_gm ρ) i := by
    intro i hi
    rw [qb_Ux rV i hi]
    unfold qb_U
    rw [if_neg (fun c => by
      have := congrArg Int32.toInt c
      rw [nI_toInt (by omega), show (-1 : Int32).toInt = -1 by decide] at this
      omega), if_neg (fun c => by have := (qb_eq (b := 4) (by omega) (by decide)).mp c; omega), if_neg h7]
    rw [qb_n (k := u) (by omega), qb_n (k := m) (by omega), pw]
    exact qb_setset i
  rw [e2]
  have all : qb_F (fun a j => ((86 ≤ a ∧ a ≤ 88) ∨ (a = 85 ∧ j = 0)) ∨ (9 ≤ a ∧ a ≤ 15) ∨ (17 ≤ a ∧ a < 24) ∨ (a = 3 ∧ j = 18) ∨ (a = 119 ∨ a = 120 ∨ (a = 99 ∧ (j = 32 ∨ (27 ≤ j ∧ j ≤ 29)))) ∨ a = 102 ∨ (a = 99 ∧ j = 9)) σ ρ := qb_Ft tF rF (fun _ _ h => by omega) (fun _ _ h => by omega)
  have g0 : qb_gm ρ 0 = qb_gm σ 0 := by
    rw [rV 0 (by omega)]
    unfold qb_set
    rw [if_neg (by omega)]
  refine ⟨rfl, ?_⟩
  dsimp only
  refine qb_finE hI all (fun a j r => by unfold qb_rB qb_rC qb_rW qb_rX at r; omega) ⟨fun i hi => ?_, qb_Dx rV hD⟩ (qb_push (c := nI u) (f := (nI m)) (x := (σ (9 + u) m)) k8 k3 iA.2 ?_ ?_ (fun j hj => ?_) ?_ (fun j i hj hi => ?_) (fun i hi => ?_) ⟨hc.1, by rw [n3]; exact hc.2⟩ g0 hU) ?_ ?_
  · rw [rV i hi, ← b1 i hi]
    exact qb_cF rF (fun b j hb => by omega) hi
  · rw [rF 85 0 (by omega), b4 85 0 (by omega), er0, qb_uA (by omega)]; exact c1
  · rw [eρ, qb_uA (by omega)]; exact d1
  · rw [rF 86 j (by omega), rF 87 j (by omega), rF 88 j (by omega), b4 86 j (by omega), b4 87 j (by omega), b4 88 j (by omega), er0, qb_uA (by omega), qb_uA (by omega), qb_uA (by omega)]
    exact c2 j hj
  · rw [rF 86 _ (by omega), rF 87 _ (by omega), rF 88 _ (by omega), b4 86 _ (by omega), b4 87 _ (by omega), b4 88 _ (by omega), er0, qb_uA (by omega), qb_uA (by omega), qb_uA (by omega)]
    exact c3
  · have := d2 j i hj hi
    unfold qb_tv at this ⊢
    rw [eρ, qb_uA (by omega), this]
    exact mF 119 _ (by omega)
  · have := d3 i hi
    unfold qb_tv at this ⊢
    rw [eρ, qb_uA (by omega), this]
    exact qb_mF mF (fun b j hb => by omega) hi
  · intro c m' hc' hm'
    rw [rV 0 (by omega)] at hc'
    have hn : ((qb_set (qb_gm σ) (23 + 4 * u + m) d) 0).toInt ≤ 7 := (hD 0 (by omega)).2
    rw [rF (17 + c) m' (by omega), b2 c m' hc' hm']
    exact qb_TVx (fun i hi => (rV i hi).symm) (by omega) hm'
  · intro _ h
    rw [rF 3 18 (by omega), b3] at h
    exact absurd h (by decide)
theorem qc_40 {xx yy : Prop} {σ : qa_S} {N : Nat} (hN : 5000 ≤ N) (hI : qb_I xx yy σ) (a : Int32) (b : Int32) (d : Int32) : (ma_40_3 N a b d σ).1 = (ma_178_99 N a b d (ma_40_3 N a b d σ).2).1 ∧ qb_I xx yy (ma_178_99 N a b d (ma_40_3 N a b d σ).2).2 := by
  obtain ⟨n, n7, n1, n2, n3⟩ := qb_An hI.1
  have z : (0 : Int32).toInt = 0 := by decide
  have k9 : (9 : Int32).toInt = 9 := by decide
  have q4 : ∀ τ, τ 99 0 = σ 99 0 → (ma_22_4 a σ = 0 ↔ ma_163_99 a (qa_u τ 99 9 0) = 0) := fun τ h => by rw [qb_22 n7 n1, qb_163 n7 ((qb_uN (by omega)).trans (h.trans n2))]
  by_cases h0 : ma_22_4 a σ = 0
  · have e1 : ma_40_3 N a b d σ = ((-1 : Int32), qb_rf 1 σ) := by unfold ma_40_3; rw [if_pos h0]; dsimp only [qa_in]; rw [qb_9_1]; rfl
    have e2 : ∀ τ, τ 99 0 = σ 99 0 → ma_178_99 N a b d τ = ((-1 : Int32), qb_rg 1 τ) := by intro τ h; have q := q4 τ h; unfold ma_178_99; dsimp only [qa_in]; rw [if_pos (q.mp h0), if_pos qb_n1, qb_152_1]; rfl
    rw [e1]
    dsimp only
    rw [e2 _ qb_rf0]
    exact ⟨rfl, qb_rfI hI⟩
  have k5 : (5 : Int64).toInt = 5 := by decide
  have k0 : (0 : Int64).toInt = 0 := by decide
  have hm : ma_19 b = 0 ↔ ma_158 b.toInt64 0 5 = 0 := by rw [qb_19, qb_158z, qb_l, k0, k5]
  by_cases h7 : ma_19 b = 0
  · have e1 : ma_40_3 N a b d σ = ((-2 : Int32), qb_rf 2 σ) := by unfold ma_40_3; rw [if_neg h0, if_pos h7]; dsimp only [qa_in]; rw [qb_9_2]; rfl
    have e2 : ∀ τ, τ 99 0 = σ 99 0 → ma_178_99 N a b d τ = ((-2 : Int32), qb_rg 2 τ) := by intro τ h; have q := q4 τ h; unfold ma_178_99; dsimp only [qa_in]; rw [if_neg (fun c => h0 (q.mpr c)), if_pos (hm.mp h7), if_pos qb_n2, qb_152_2]; rfl
    rw [e1]
    dsimp only
    rw [e2 _ qb_rf0]
    exact ⟨rfl, qb_rfI hI⟩
  have h7b : ¬ ma_158 b.toInt64 0 5 = 0 := fun c => h7 (hm.mpr c)
  by_cases h1 : d < 0
  · have e1 : ma_40_3 N a b d σ = ((-4 : Int32), qb_rf 4 σ) := by unfold ma_40_3; rw [if_neg h0, if_neg h7, if_pos h1]; dsimp only [qa_in]; rw [qb_9_4]; rfl
    have e2 : ∀ τ, τ 99 0 = σ 99 0 → ma_178_99 N a b d τ = ((-4 : Int32), qb_rg 4 τ) := by intro τ h; have q := q4 τ h; unfold ma_178_99; dsimp only [qa_in]; rw [if_neg (fun c => h0 (q.mpr c)), if_neg h7b, qb_175, if_pos h1, if_pos qb_n4, qb_152_4]; rfl
    rw [e1]
    dsimp only
    rw [e2 _ qb_rf0]
    exact ⟨rfl, qb_rfI hI⟩
  by_cases h2 : 9 < d
  · have e1 : ma_40_3 N a b d σ = ((-6 : Int32), qb_rf 6 σ) := by unfold ma_40_3; rw [if_neg h0, if_neg h7, if_neg h1, if_pos h2]; dsimp only [qa_in]; rw [qb_9_6]; rfl
    have e2 : ∀ τ, τ 99 0 = σ 99 0 → ma_178_99 N a b d τ = ((-6 : Int32), qb_rg 6 τ) := by intro τ h; have q := q4 τ h; unfold ma_178_99; dsimp only [qa_in]; rw [if_neg (fun c => h0 (q.mpr c)), if_neg h7b, qb_175, if_neg h1, if_pos h2, if_pos qb_n6, qb_152_6]; rfl
    rw [e1]
    dsimp only
    rw [e2 _ qb_rf0]
    exact ⟨rfl, qb_rfI hI⟩
  have hc := Decidable.not_not.mp (fun h => h0 ((qb_22 n7 n1).mpr h))
  have g1 : ¬ d.toInt < 0 := fun h => h1 (Int32.lt_iff_toInt_lt.mpr (by omega))
  have g2 : ¬ 9 < d.toInt := fun h => h2 (Int32.lt_iff_toInt_lt.mpr (by omega))
  obtain ⟨u, hu, hun⟩ : ∃ u : Nat, a = nI u ∧ u < n := ⟨a.toInt.toNat, q53_nI hc.1, by omega⟩
  subst hu
  have hI0 := hI
  obtain ⟨iA, iB, iC, iE, iW, iX, iY, iQ⟩ := hI0
  obtain ⟨k, k8, k1, k2, k3⟩ := iE
  have hb := Decidable.not_not.mp (fun h => h7 (qb_19.mpr h))
  obtain ⟨c1, c2, c3, c4⟩ := qb_37 (σ := σ) (c := nI u) (f := (4 : Int32)) (w := ((10 : Int32) * (σ 5 u) + (σ 6 u))) k8 k1
  have c4 : qb_F (fun a j => (86 ≤ a ∧ a ≤ 88) ∨ (a = 85 ∧ j = 0)) σ _ := c4
  obtain ⟨ρ0, er0⟩ : ∃ ρ0, ρ0 = qa_u (qa_u (ma_37_85 (nI u) (4 : Int32) ((10 : Int32) * (σ 5 u) + (σ 6 u)) σ) 5 u b) 6 u d := ⟨_, rfl⟩
  have cV0 : ∀ i, i < 69 → qb_gc 4 (ma_37_85 (nI u) (4 : Int32) ((10 : Int32) * (σ 5 u) + (σ 6 u)) σ) i = qb_gm σ i := fun i hi => (qb_cF c4 (fun b j hb => by omega) hi).trans (iA.1 i hi)
  have cV : ∀ i, i < 69 → qb_gc 4 ρ0 i = (qb_set (qb_set (qb_gm σ) (2 + 3 * u) b) (3 + 3 * u) d) i := by rw [er0]; exact qb_cs (qb_cs cV0 (by omega) (qb_cK (by omega))) (by omega) (qb_cG (by omega))
  have hD : qb_D (qb_set (qb_set (qb_gm σ) (2 + 3 * u) b) (3 + 3 * u) d) := qb_Ds (qb_Ds iA.2 (by rw [qb_hK (by omega)]; omega)) (by rw [qb_hG (by omega)]; omega)
  have rF0 : qb_F (fun a j => ((86 ≤ a ∧ a ≤ 88) ∨ (a = 85 ∧ j = 0)) ∨ (a = 5 ∨ a = 6)) σ ρ0 := fun a j h => by
    rw [er0, qb_uA (by omega), qb_uA (by omega)]
    exact c4 a j (by omega)
  obtain ⟨b1, b2, b3, b4⟩ := qb_28 (σ := ρ0) (N := N) (by omega) cV hD
  obtain ⟨τ, eτ⟩ : ∃ τ, τ = ma_28_3 N ρ0 := ⟨_, rfl⟩
  rw [← eτ] at b1 b2 b3 b4
  have e1 : ma_40_3 N (nI u) b d σ = ((10 : Int32) * (σ 5 u) + (σ 6 u), τ) := by
    unfold ma_40_3
    rw [if_neg h0, if_neg h7, if_neg h1, if_neg h2]
    dsimp only [qa_in]
    rw [qb_n (k := u) (by omega), ← er0, ← eτ]
  rw [e1]
  dsimp only
  have tF : qb_F (fun a j => ((86 ≤ a ∧ a ≤ 88) ∨ (a = 85 ∧ j = 0)) ∨ (a = 5 ∨ a = 6) ∨ (17 ≤ a ∧ a < 24) ∨ (a = 3 ∧ j = 18)) σ τ := qb_Ft rF0 b4 (fun _ _ h => by omega) (fun _ _ h => by omega)
  have t0 : τ 99 0 = nI n := (tF 99 0 (by omega)).trans n2
  have m32 : qa_u τ 99 9 0 99 32 = nI k := by rw [qb_uN (by omega), tF 99 32 (by omega)]; exact k2
  obtain ⟨d1, d2, d3, d4⟩ := qb_176 (σ := qa_u τ 99 9 0) (N := N) (by omega) k8 m32
  have d4 : qb_F (fun a j => a = 119 ∨ a = 120 ∨ (a = 99 ∧ (j = 32 ∨ (27 ≤ j ∧ j ≤ 29)))) _ _ := d4
  obtain ⟨ρ, eρ⟩ : ∃ ρ, ρ = qa_u (qa_u (ma_176_99 N (qa_u τ 99 9 0)) 100 u b) 101 u d := ⟨_, rfl⟩
  have mF : qb_F (fun a j => ((86 ≤ a ∧ a ≤ 88) ∨ (a = 85 ∧ j = 0)) ∨ (a = 5 ∨ a = 6) ∨ (17 ≤ a ∧ a < 24) ∨ (a = 3 ∧ j = 18) ∨ (a = 99 ∧ j = 9)) σ (qa_u τ 99 9 0) := fun a j h => by rw [qb_uN (by omega)]; exact tF a j (by omega)
  have rV0 : ∀ i, i < 69 → qb_gm (ma_176_99 N (qa_u τ 99 9 0)) i = qb_gm σ i := fun i hi => (qb_mF d4 (fun b j hb => by omega) hi).trans (qb_mF mF (fun b j hb => by omega) hi)
  have rV : ∀ i, i < 69 → qb_gm ρ i = (qb_set (qb_set (qb_gm σ) (2 + 3 * u) b) (3 + 3 * u) d) i := by rw [eρ]; exact qb_ms (qb_ms rV0 (by omega) (qb_mK u (by omega))) (by omega) (qb_mG u (by omega))
  have rF : qb_F (fun a j => (a = 119 ∨ a = 120 ∨ (a = 99 ∧ (j = 32 ∨ (27 ≤ j ∧ j ≤ 29)))) ∨ (a = 100 ∨ a = 101) ∨ (a = 99 ∧ j = 9)) τ ρ := fun a j h => by
    rw [eρ, qb_uA (by omega), qb_uA (by omega), d4 a j (by omega), qb_uN (by omega)]
  have q := q4 τ (t0.trans n2.symm)
  have h0b : ¬ ma_163_99 (nI u) (qa_u τ 99 9 0) = 0 := fun c => h0 (q.mpr c)
  have p5 : σ 5 u = qb_gm σ (2 + 3 * u) := by
    have := iA.1 (2 + 3 * u) (by omega)
    unfold qb_gc at this
    rw [qb_cK (by omega)] at this
    exact this
  have p6 : σ 6 u = qb_gm σ (3 + 3 * u) := by
    have := iA.1 (3 + 3 * u) (by omega)
    unfold qb_gc at this
    rw [qb_cG (by omega)] at this
    exact this
  have r100 : ma_176_99 N (qa_u τ 99 9 0) 100 u = σ 5 u := by
    rw [p5, ← rV0 (2 + 3 * u) (by omega)]
    unfold qb_gm
    rw [qb_mK u (by omega)]
  have r101 : ma_176_99 N (qa_u τ 99 9 0) 101 u = σ 6 u := by
    rw [p6, ← rV0 (3 + 3 * u) (by omega)]
    unfold qb_gm
    rw [qb_mG u (by omega)]
  have e2 : ma_178_99 N (nI u) b d τ = ((10 : Int32) * (σ 5 u) + (σ 6 u), ρ) := by
    unfold ma_178_99
    dsimp only [qa_in]
    rw [if_neg h0b, if_neg h7b, qb_175, if_neg h1, if_neg h2, if_neg qb_z0]
    rw [qb_n (k := u) (by omega), r100, r101, ← eρ]
  have hU : ∀ i, i < 69 → qb_gm σ i = qb_U (nI u) (4 : Int32) ((10 : Int32) * (σ 5 u) + (σ 6 u)) (qb_gm ρ) i := by
    intro i hi
    rw [qb_Ux rV i hi]
    unfold qb_U
    rw [if_neg (by decide), if_pos rfl, qb_n (k := u) (by omega)]
    have dd : ∀ x, x ≤ 5 → ∀ y, y ≤ 9 → ((10 : Int32) * nI x + nI y) / 10 = nI x ∧ (10 : Int32) * nI x + nI y - nI x * 10 = nI y := by decide
    have x5 := iA.2 (2 + 3 * u) (by omega)
    have x6 := iA.2 (3 + 3 * u) (by omega)
    rw [qb_hK (by omega)] at x5
    rw [qb_hG (by omega)] at x6
    obtain ⟨x, xe, x1, -, -⟩ := qb_ex x5
    obtain ⟨y, ye, y1, -, -⟩ := qb_ex x6
    rw [p5, p6, xe, ye, (dd x x1 y y1).1, (dd x x1 y y1).2]
    unfold qb_set
    by_cases e6 : i = 3 + 3 * u
    · rw [if_pos e6, e6, ye]
    · rw [if_neg e6]
      by_cases e5 : i = 2 + 3 * u
      · rw [if_pos e5, e5, xe]
      · rw [if_neg e5, if_neg e6, if_neg e5]
  rw [e2]
  have all : qb_F (fun a j => ((86 ≤ a ∧ a ≤ 88) ∨ (a = 85 ∧ j = 0)) ∨ (a = 5 ∨ a = 6) ∨ (17 ≤ a ∧ a < 24) ∨ (a = 3 ∧ j = 18) ∨ (a = 119 ∨ a = 120 ∨ (a = 99 ∧ (j = 32 ∨ (27 ≤ j ∧ j ≤ 29)))) ∨ (a = 100 ∨ a = 101) ∨ (a = 99 ∧ j = 9)) σ ρ := qb_Ft tF rF (fun _ _ h => by omega) (fun _ _ h => by omega)
  have g0 : qb_gm ρ 0 = qb_gm σ 0 := by
    rw [rV 0 (by omega)]
    unfold qb_set
    rw [if_neg (by omega), if_neg (by omega)]
  refine ⟨rfl, ?_⟩
  dsimp only
  refine qb_finE hI all (fun a j r => by unfold qb_rB qb_rC qb_rW qb_rX at r; omega) ⟨fun i hi => ?_, qb_Dx rV hD⟩ (qb_push (c := nI u) (f := (4 : Int32)) (x := ((10 : Int32) * (σ 5 u) + (σ 6 u))) k8 k3 iA.2 ?_ ?_ (fun j hj => ?_) ?_ (fun j i hj hi => ?_) (fun i hi => ?_) ⟨hc.1, by rw [n3]; exact hc.2⟩ g0 hU) ?_ ?_
  · rw [rV i hi, ← b1 i hi]
    exact qb_cF rF (fun b j hb => by omega) hi
  · rw [rF 85 0 (by omega), b4 85 0 (by omega), er0, qb_uA (by omega), qb_uA (by omega)]; exact c1
  · rw [eρ, qb_uA (by omega), qb_uA (by omega)]; exact d1
  · rw [rF 86 j (by omega), rF 87 j (by omega), rF 88 j (by omega), b4 86 j (by omega), b4 87 j (by omega), b4 88 j (by omega), er0, qb_uA (by omega), qb_uA (by omega), qb_uA (by omega), qb_uA (by omega), qb_uA (by omega), qb_uA (by omega)]
    exact c2 j hj
  · rw [rF 86 _ (by omega), rF 87 _ (by omega), rF 88 _ (by omega), b4 86 _ (by omega), b4 87 _ (by omega), b4 88 _ (by omega), er0, qb_uA (by omega), qb_uA (by omega), qb_uA (by omega), qb_uA (by omega), qb_uA (by omega), qb_uA (by omega)]
    exact c3
  · have := d2 j i hj hi
    unfold qb_tv at this ⊢
    rw [eρ, qb_uA (by omega), qb_uA (by omega), this]
    exact mF 119 _ (by omega)
  · have := d3 i hi
    unfold qb_tv at this ⊢
    rw [eρ, qb_uA (by omega), qb_uA (by omega), this]
    exact qb_mF mF (fun b j hb => by omega) hi
  · intro c m' hc' hm'
    rw [rV 0 (by omega)] at hc'
    have hn : ((qb_set (qb_set (qb_gm σ) (2 + 3 * u) b) (3 + 3 * u) d) 0).toInt ≤ 7 := (hD 0 (by omega)).2
    rw [rF (17 + c) m' (by omega), b2 c m' hc' hm']
    exact qb_TVx (fun i hi => (rV i hi).symm) (by omega) hm'
  · intro _ h
    rw [rF 3 18 (by omega), b3] at h
    exact absurd h (by decide)
theorem qc_41 {xx yy : Prop} {σ : qa_S} {N : Nat} (hN : 5000 ≤ N) (hI : qb_I xx yy σ) : (ma_41_3 N σ).1 = (ma_168_99 N  (ma_41_3 N σ).2).1 ∧ qb_I xx yy (ma_168_99 N  (ma_41_3 N σ).2).2 := by
  have hI0 := hI
  obtain ⟨iA, iB, iC, ⟨k, k8, k1, k2, k3⟩, iW, iX, iY, iQ⟩ := hI0
  by_cases h0 : k = 0
  · have d1 : σ 85 0 < (1 : Int32) := by rw [k1, h0]; decide
    have d2 : ∀ τ, τ = qb_rf 3 σ → qa_u τ 99 9 0 99 32 = 0 := fun τ h => by rw [qb_uN (by omega), h]; unfold qb_rf; rw [qb_uA (by omega), k2, h0]; rfl
    have e1 : ma_41_3 N σ = ((-3 : Int32), qb_rf 3 σ) := by simp only [ma_41_3, qa_in, d1, if_true, qb_9_3] <;> rfl
    have e2 : ∀ τ, τ = qb_rf 3 σ → ma_168_99 N τ = ((-3 : Int32), qb_rg 3 τ) := by intro τ h; simp only [ma_168_99, qa_in, d2 τ h, if_true, qb_152_3] <;> rfl
    rw [e1]
    dsimp only
    rw [e2 _ rfl]
    exact ⟨rfl, qb_rfI hI⟩
  obtain ⟨k', rfl⟩ : ∃ k', k = k' + 1 := ⟨k - 1, by omega⟩
  obtain ⟨n, n7, n1, n2, n3⟩ := qb_An iA
  obtain ⟨kd, kc, ku⟩ := k3 k' (by omega)
  obtain ⟨u, hu, hun⟩ : ∃ u : Nat, σ 86 k' = nI u ∧ u < n := ⟨(σ 86 k').toInt.toNat, q53_nI kc.1, by omega⟩
  have d1 : ¬ σ 85 0 < (1 : Int32) := by rw [k1]; exact qb_ltF (b := 1) (by omega) (by omega)
  obtain ⟨a1, a2, a3⟩ := qb_42 (σ := σ) (V := qb_gm σ) (n := n) (by omega) k1 iA.1 hu n1 hun n7
  have a3 : qb_F (fun a j => (5 ≤ a ∧ a ≤ 7) ∨ (9 ≤ a ∧ a ≤ 15) ∨ (a = 85 ∧ j = 0)) σ _ := a3
  have eS : ∀ i, i < 69 → qb_S σ (k' + 1) (k' + 1) i = qb_gm σ i := fun i hi => by unfold qb_S; rw [if_neg (by omega)]
  have a2' : ∀ i, i < 69 → qb_gc 4 (ma_42_85_4 σ) i = qb_tv σ k' i := fun i hi => by rw [a2 i hi, ku i hi]; exact (qb_Ux eS i hi).symm
  obtain ⟨b1, b2, b3, b4⟩ := qb_28 (σ := ma_42_85_4 σ) (N := N) (by omega) a2' kd
  obtain ⟨τ, eτ⟩ : ∃ τ, τ = ma_28_3 N (ma_42_85_4 σ) := ⟨_, rfl⟩
  rw [← eτ] at b1 b2 b3 b4
  have t85 : τ 85 0 = nI k' := (b4 85 0 (by omega)).trans a1
  have e1 : ma_41_3 N σ = (nI k', τ) := by
    simp only [ma_41_3, qa_in, d1, if_false]
    rw [← eτ, t85]
  rw [e1]
  dsimp only
  have tF : qb_F (fun a j => ((5 ≤ a ∧ a ≤ 7) ∨ (9 ≤ a ∧ a ≤ 15) ∨ (a = 85 ∧ j = 0)) ∨ (17 ≤ a ∧ a < 24) ∨ (a = 3 ∧ j = 18)) σ τ := qb_Ft a3 b4 (fun _ _ h => by omega) (fun _ _ h => by omega)
  have m32 : qa_u τ 99 9 0 99 32 = nI (k' + 1) := by rw [qb_uN (by omega), tF 99 32 (by omega)]; exact k2
  have d2 : ¬ qa_u τ 99 9 0 99 32 = 0 := by rw [m32]; exact fun h => by have := (qb_eq (b := 0) (by omega) (by decide)).mp h; omega
  obtain ⟨μ, eμ⟩ : ∃ μ, μ = qa_u (qa_u τ 99 9 0) 99 32 (nI k') := ⟨_, rfl⟩
  have μ32 : μ 99 32 = nI k' := by rw [eμ, qb_uE]
  obtain ⟨f1, f2⟩ := qb_168 (σ := μ) (N := N) (t := k') (by omega) (by omega) μ32
  obtain ⟨ν, eν⟩ : ∃ ν, ν = (qa_wh (fun s => s) (mc_168_99_p31 N) N ((0 : Int32), μ)).2 := ⟨_, rfl⟩
  rw [← eν] at f1 f2
  obtain ⟨g1, g2⟩ := qb_159_120U (σ := ν) (N := N) (by omega)
  obtain ⟨ρ, eρ⟩ : ∃ ρ, ρ = ma_159_99_120 N 0 ν := ⟨_, rfl⟩
  rw [← eρ] at g1 g2
  have μF : qb_F (fun a j => ((5 ≤ a ∧ a ≤ 7) ∨ (9 ≤ a ∧ a ≤ 15) ∨ (a = 85 ∧ j = 0)) ∨ (17 ≤ a ∧ a < 24) ∨ (a = 3 ∧ j = 18) ∨ (a = 99 ∧ (j = 9 ∨ j = 32))) σ μ := fun a j h => by rw [eμ, qb_uN (by omega), qb_uN (by omega)]; exact tF a j (by omega)
  have νF : qb_F (fun a j => ((5 ≤ a ∧ a ≤ 7) ∨ (9 ≤ a ∧ a ≤ 15) ∨ (a = 85 ∧ j = 0)) ∨ (17 ≤ a ∧ a < 24) ∨ (a = 3 ∧ j = 18) ∨ (a = 99 ∧ (j = 9 ∨ j = 32)) ∨ a = 120) σ ν := qb_Ft μF f2 (fun _ _ h => by omega) (fun _ _ h => by omega)
  have rm : ∀ i, i < 69 → qb_gm ρ i = qb_tv σ k' i := fun i hi => by
    rw [g1 i hi, f1 i hi]
    exact μF 119 _ (by omega)
  have ρ32 : ρ 99 32 = nI k' := by rw [g2 99 32 (by omega), f2 99 32 (by omega)]; exact μ32
  have e2 : ma_168_99 N τ = (nI k', ρ) := by
    simp only [ma_168_99, qa_in, d2, if_false]
    rw [m32, qb_sm, ← eμ, ← eν, ← eρ, ρ32]
  rw [e2]
  have all : qb_F (fun a j => ((5 ≤ a ∧ a ≤ 7) ∨ (9 ≤ a ∧ a ≤ 15) ∨ (a = 85 ∧ j = 0)) ∨ (17 ≤ a ∧ a < 24) ∨ (a = 3 ∧ j = 18) ∨ (a = 99 ∧ (j = 9 ∨ j = 32 ∨ j = 0 ∨ j = 5 ∨ (27 ≤ j ∧ j ≤ 29))) ∨ a = 120 ∨ (100 ≤ a ∧ a ≤ 106)) σ ρ := qb_Ft νF g2 (fun _ _ h => by omega) (fun _ _ h => by omega)
  have tρ : qb_F (fun a j => (a = 99 ∧ (j = 9 ∨ j = 32 ∨ j = 0 ∨ j = 5 ∨ (27 ≤ j ∧ j ≤ 29))) ∨ a = 120 ∨ (100 ≤ a ∧ a ≤ 106)) τ ρ := fun a j h => by rw [g2 a j (by omega), f2 a j (by omega), eμ, qb_uN (by omega), qb_uN (by omega)]
  have g0 : qb_gm ρ 0 = qb_gm σ 0 := by
    rw [rm 0 (by omega), ku 0 (by omega), qb_Ux eS 0 (by omega)]
    unfold qb_U qb_set
    by_cases q1 : σ 87 k' = -1
    · rw [if_pos q1, if_neg (by omega)]
    rw [if_neg q1]
    by_cases q2 : σ 87 k' = 4
    · rw [if_pos q2, if_neg (by omega), if_neg (by omega)]
    rw [if_neg q2]
    by_cases q3 : ma_26 (σ 87 k') = 0
    · rw [if_pos q3]
    · rw [if_neg q3, if_neg (by omega)]
  refine ⟨rfl, ?_⟩
  dsimp only
  refine qb_finE hI all (fun a j r => by unfold qb_rB qb_rC qb_rW qb_rX at r; omega) ⟨fun i hi => ?_, qb_Dx rm kd⟩ ⟨k', by omega, (tρ 85 0 (by omega)).trans t85, ρ32, fun j hj => ?_⟩ (fun c m hc hm => ?_) (fun _ h => ?_)
  · rw [rm i hi, ← b1 i hi]
    exact qb_cF tρ (fun b j hb => by omega) hi
  · obtain ⟨j1, j2, j3⟩ := k3 j (by omega)
    have tj : ∀ j i, qb_tv ρ j i = qb_tv σ j i := fun j i => all 119 _ (by omega)
    rw [all 86 j (by omega), all 87 j (by omega), all 88 j (by omega), g0]
    refine ⟨qb_Dx (fun i _ => tj j i) j1, j2, fun i hi => ?_⟩
    rw [tj j i, j3 i hi]
    refine qb_Ux (fun i hi => ?_) i hi
    unfold qb_S
    rw [if_pos (show j + 1 < k' + 1 by omega)]
    by_cases e : j + 1 < k'
    · rw [if_pos e]; exact (tj _ i).symm
    · rw [if_neg e, show j + 1 = k' by omega]; exact (rm i hi).symm
  · rw [rm 0 (by omega)] at hc
    have hn : (qb_tv σ k' 0).toInt ≤ 7 := (kd 0 (by omega)).2
    rw [tρ (17 + c) m (by omega), b2 c m hc hm]
    exact qb_TVx (fun i hi => (rm i hi).symm) (by omega) hm
  · rw [tρ 3 18 (by omega), b3] at h
    exact absurd h (by decide)
