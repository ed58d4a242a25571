/-! cellar: the whole -/
section W65F
variable {X : Nat → Int32} {n : Nat}
def qd_Fc (σ τ : qa_S) : Prop := qb_F (fun b j => (b = 50 ∧ j < 2) ∨ (51 ≤ b ∧ b ≤ 53) ∨ (55 ≤ b ∧ b ≤ 61) ∨ (70 ≤ b ∧ b ≤ 72)) σ τ
def qd_Fr (σ τ : qa_S) : Prop := qb_F (fun b j => (b = 99 ∧ (j = 0 ∨ j = 5)) ∨ (100 ≤ b ∧ b ≤ 106)) σ τ
theorem qd_k2 : ∀ p, p < 100 → ¬ (0 : Int32) < -2000 - nI p := by decide
theorem qd_k1 : ∀ p, p < 100 → ¬ (0 : Int32) < -1000 - nI p := by decide
/-- all statements, on both sides -/
theorem qd_run {N s : Nat} {P : Nat → Nat} (hN : 5000 ≤ N) (hn : n ≤ 96) (hs : s ≤ 24) (hPs : P s = n) : ∀ (r i : Nat) (V : Nat → Int32) (σc σr : qa_S) (Nc Nr : Nat), i + r = s → r < Nc → r < Nr →
    σc 83 0 = nI n → (∀ i, i < 96 → σc 84 i = X i) → qd_C X n σr P s → σr 99 20 = nI s → (∀ i, i < 69 → qb_gc 50 σc i = V i) → (∀ i, i < 69 → qb_gm σr i = V i) → qb_D V →
    (∃ j σc' σr', j < s ∧ qa_wh (fun s => .inr s) (mc_13_83_50_p20 N) Nc (nI i, nI (P i), σc) = .inl (-2000 - nI (P j), σc') ∧ qa_wh (fun s => .inr s) (mc_153_99_p84 N) Nr (nI i, σr) = .inl (-2000 - nI (P j), ma_159_99_117 N 0 σr') ∧ qd_Fc σc σc' ∧ qd_Fr σr σr') ∨
    (∃ V' σc' σr', qa_wh (fun s => .inr s) (mc_13_83_50_p20 N) Nc (nI i, nI (P i), σc) = .inr (nI s, nI n, σc') ∧ qa_wh (fun s => .inr s) (mc_153_99_p84 N) Nr (nI i, σr) = .inr (nI s, σr') ∧ (∀ i, i < 69 → qb_gc 50 σc' i = V' i) ∧ (∀ i, i < 69 → qb_gm σr' i = V' i) ∧ qb_D V' ∧ qd_Fc σc σc' ∧ qd_Fr σr σr') := by
  intro r
  induction r with
  | zero =>
    intro i V σc σr Nc Nr hi hNc hNr h0 hX hC h20 hVc hVr hD
    have e : i = s := by omega
    subst e
    obtain ⟨Nc, rfl⟩ : ∃ m, Nc = m + 1 := ⟨Nc - 1, by omega⟩
    obtain ⟨Nr, rfl⟩ : ∃ m, Nr = m + 1 := ⟨Nr - 1, by omega⟩
    refine Or.inr ⟨V, σc, σr, ?_, ?_, hVc, hVr, hD, qb_Fr, qb_Fr⟩
    · rw [hPs]
      exact qa_whr (by unfold mc_13_83_50_p20; dsimp only; rw [if_neg (by rw [h0]; exact qb_ltF (by omega) (by omega))])
    · exact qa_whr (by unfold mc_153_99_p84; dsimp only; rw [if_neg (by rw [h20]; exact qb_ltF (by omega) (by omega))])
  | succ r ih =>
    intro i V σc σr Nc Nr hi hNc hNr h0 hX hC h20 hVc hVr hD
    obtain ⟨Nc, rfl⟩ : ∃ m, Nc = m + 1 := ⟨Nc - 1, by omega⟩
    obtain ⟨Nr, rfl⟩ : ∃ m, Nr = m + 1 := ⟨Nr - 1, by omega⟩
    obtain ⟨c1, c2, c3, c4, c5, c6⟩ := hC.2 i (by omega)
    obtain ⟨p1, p2⟩ := qd_16 (σ := σc) (V := V) hN hn h0 hX c1 hVc hD
    obtain ⟨q1, q2⟩ := qd_161 (σ := σr) (V := V) (N := N) (i := i) hN (by omega) c5 c6 c1 hVr hD
    cases hg : qd_g X (P i) V with
    | none =>
      rw [hg] at p1 q1
      obtain ⟨p1, -⟩ := p1
      obtain ⟨q1, -⟩ := q1
      refine Or.inl ⟨i, (ma_16_83_50 N (nI (P i)) σc).2, (ma_161_99 N (nI i) σr).2, by omega, ?_, ?_, p2, q2⟩
      · exact qa_whr (by
          unfold mc_13_83_50_p20
          dsimp only
          rw [if_pos (by rw [h0]; exact qb_ltT c3 (by omega))]
          dsimp only [qa_in]
          rw [if_pos p1])
      · exact qa_whr (by
          unfold mc_153_99_p84
          dsimp only
          rw [if_pos (by rw [h20]; exact qb_ltT (by omega) (by omega))]
          dsimp only [qa_in]
          rw [if_pos q1, qb_n (k := i) (by omega)]
          obtain ⟨u1, u2⟩ := qb_159_117U (σ := (ma_161_99 N (nI i) σr).2) (N := N) (by omega)
          rw [u2 114 i (by omega), q2 114 i (by omega), c4])
    | some W =>
      rw [hg] at p1 q1
      obtain ⟨p1, pV⟩ := p1
      obtain ⟨q1, qV⟩ := q1
      have hDW := qd_gD c1 hD hg
      have hC' : qd_C X n (ma_161_99 N (nI i) σr).2 P s := by
        refine ⟨hC.1, fun k hk => ?_⟩
        obtain ⟨d1, d2, d3, d4, d5, d6⟩ := hC.2 k hk
        refine ⟨d1, d2, d3, by rw [q2 114 k (by omega)]; exact d4, by rw [q2 115 k (by omega)]; exact d5, qd_VF q2 (fun i hi => by omega) d6⟩
      have key := ih (i + 1) W (ma_16_83_50 N (nI (P i)) σc).2 (ma_161_99 N (nI i) σr).2 Nc Nr (by omega) (by omega) (by omega) (by rw [p2 83 0 (by omega)]; exact h0) (fun k hk => by rw [p2 84 k (by omega)]; exact hX k hk) hC' (by rw [q2 99 20 (by omega)]; exact h20) pV qV hDW
      have s1 : mc_13_83_50_p20 N (nI i, nI (P i), σc) = .inl (nI (i + 1), nI (P (i + 1)), (ma_16_83_50 N (nI (P i)) σc).2) := by
        unfold mc_13_83_50_p20
        dsimp only
        rw [if_pos (by rw [h0]; exact qb_ltT c3 (by omega))]
        dsimp only [qa_in]
        rw [if_neg (by rw [p1]; decide), qb_s, qb_n (k := P i) (by omega), p2 84 (P i) (by omega), hX (P i) (by omega), qd_15, c2, Int32.add_comm (1 : Int32), qb_s, show nI (P i) + nI (q9a_lb (X (P i)).toInt + 1) = nI (P i + (q9a_lb (X (P i)).toInt + 1)) from (Int32.ofNat_add _ _).symm, show P i + (q9a_lb (X (P i)).toInt + 1) = P i + 1 + q9a_lb (X (P i)).toInt by omega]
      have s2 : mc_153_99_p84 N (nI i, σr) = .inl (nI (i + 1), (ma_161_99 N (nI i) σr).2) := by
        unfold mc_153_99_p84
        dsimp only
        rw [if_pos (by rw [h20]; exact qb_ltT (by omega) (by omega))]
        dsimp only [qa_in]
        rw [if_neg (by rw [q1]; decide), qb_s]
      rw [qa_whl s1, qa_whl s2]
      rcases key with ⟨j, a, b, k1, k2, k3, k4, k5⟩ | ⟨V', a, b, k1, k2, k3, k4, k5, k6, k7⟩
      · exact Or.inl ⟨j, a, b, k1, k2, k3, qb_Ft p2 k4 (fun _ _ h => h) (fun _ _ h => h), qb_Ft q2 k5 (fun _ _ h => h) (fun _ _ h => h)⟩
      · exact Or.inr ⟨V', a, b, k1, k2, k3, k4, k5, qb_Ft p2 k6 (fun _ _ h => h) (fun _ _ h => h), qb_Ft q2 k7 (fun _ _ h => h) (fun _ _ h => h)⟩
end W65F
/-- letters gone, all else as it was -/
theorem qd_fin0 {xx yy : Prop} {σ τ : qa_S} {w : Nat → Nat → Prop} (hI : qb_I xx yy σ) (hF : qb_F w σ τ) (hw : ∀ a j, qb_rB a j ∨ qb_rE a j ∨ qb_rW a j ∨ qb_rX a j ∨ qb_rY a j ∨ qb_rQ a j ∨ (qb_rA a j ∧ ¬ qb_rM a j) ∨ (qb_rC a j ∧ ¬ ((a = 83 ∧ j = 0) ∨ (a = 99 ∧ j = 17))) → ¬ w a j) (hm : ∀ i, i < 69 → qb_gm τ i = qb_gm σ i) (h83 : τ 83 0 = 0) (h17 : τ 99 17 = 0) : qb_I xx yy τ := by
  obtain ⟨iA, iB, iC, iE, iW, iX, iY, iQ⟩ := hI
  refine ⟨⟨fun i hi => ?_, qb_Dx hm iA.2⟩, qb_BF hF (fun a j r => hw a j (Or.inl r)) iB, ⟨h83.trans h17.symm, ⟨0, by omega, h83⟩, fun i hi => ?_⟩, qb_EF hF (fun a j r => hw a j (Or.inr (Or.inl r))) hm iE, qb_WF hF (fun a j r => hw a j (Or.inr (Or.inr (Or.inl r)))) iW, fun hx => qb_XF hF (fun a j r => hw a j (Or.inr (Or.inr (Or.inr (Or.inl r))))) (iX hx), qb_YF hF (fun a j r => hw a j (Or.inr (Or.inr (Or.inr (Or.inr (Or.inl r)))))) iA hm iY, fun hx => qb_QF hF (fun a j r => hw a j (Or.inr (Or.inr (Or.inr (Or.inr (Or.inr (Or.inl r))))))) (iQ hx)⟩
  · rw [hm i hi, ← iA.1 i hi]
    exact qb_cF hF (fun b j hb => hw b j (Or.inr (Or.inr (Or.inr (Or.inr (Or.inr (Or.inr (Or.inl ⟨by unfold qb_rA; omega, by unfold qb_rM; omega⟩)))))))) hi
  · rw [hF 84 i (hw _ _ (Or.inr (Or.inr (Or.inr (Or.inr (Or.inr (Or.inr (Or.inr ⟨by unfold qb_rC; omega, by omega⟩)))))))), hF 113 i (hw _ _ (Or.inr (Or.inr (Or.inr (Or.inr (Or.inr (Or.inr (Or.inr ⟨by unfold qb_rC; omega, by omega⟩))))))))]
    exact iC.2.2 i hi
theorem qc_11 {xx yy : Prop} {σ : qa_S} {N : Nat} (hN : 5000 ≤ N) (hI : qb_I xx yy σ) : (ma_11_3 N σ).1 = (ma_153_99 N (ma_11_3 N σ).2).1 ∧ qb_I xx yy (ma_153_99 N (ma_11_3 N σ).2).2 := by
  have hI0 := hI
  obtain ⟨iA, iB, ⟨c1, ⟨n, n96, c2⟩, c3⟩, iE, iW, iX, iY, iQ⟩ := hI0
  obtain ⟨a1, a2⟩ := qb_12_50_4 (σ := σ) (N := N) (by omega)
  obtain ⟨m1, em1⟩ : ∃ m, m = ma_12_50_4 N σ := ⟨_, rfl⟩
  rw [← em1] at a1 a2
  have V1 : ∀ i, i < 69 → qb_gc 50 m1 i = qb_gm σ i := fun i hi => (a1 i hi).trans (iA.1 i hi)
  have m83 : m1 83 0 = nI n := (a2 83 0 (by omega)).trans c2
  have m84 : ∀ i, i < 96 → m1 84 i = σ 84 i := fun i _ => a2 84 i (by omega)
  have w14 := qd_14 (σ := m1) hN n96 m83
  have ew : q9a_w (fun i => (m1 84 i).toInt) n 0 0 = q9a_w (fun i => (σ 84 i).toInt) n 0 0 := by
    have : (fun i => (m1 84 i).toInt) = (fun i => (σ 84 i).toInt) := by
      funext i
      rw [a2 84 i (by omega)]
    rw [this]
  rw [ew] at w14
  -- the reference's reading, from any state with these letters
  have rd : ∀ τ : qa_S, qb_F (fun a j => qb_rA a j ∧ ¬ qb_rM a j ∨ (a = 83 ∧ j = 0) ∨ (17 ≤ a ∧ a ≤ 23) ∨ (a = 3 ∧ j = 18) ∨ (a = 85 ∧ j = 0) ∨ (50 ≤ a ∧ a ≤ 72)) σ τ → ∃ μ, μ = (qa_wh (fun s => s) (mc_153_99_p20 N) N (qa_u (qa_u (qa_u (qa_u τ 99 9 0) 99 18 0) 99 19 0) 99 20 0)) ∧ qd_R (fun i => σ 84 i) n (q9a_w (fun i => (σ 84 i).toInt) n 0 0) μ ∧ qb_F (fun a j => (a = 99 ∧ (j = 9 ∨ j = 18 ∨ j = 19 ∨ j = 20)) ∨ (114 ≤ a ∧ a ≤ 116)) τ μ := by
    intro τ hτ
    have F0 : qb_F (fun a j => a = 99 ∧ (j = 9 ∨ j = 18 ∨ j = 19 ∨ j = 20)) τ (qa_u (qa_u (qa_u (qa_u τ 99 9 0) 99 18 0) 99 19 0) 99 20 0) := fun a j h => by rw [qb_uN (by omega), qb_uN (by omega), qb_uN (by omega), qb_uN (by omega)]
    have S0 : qd_S (fun i => σ 84 i) n (qa_u (qa_u (qa_u (qa_u τ 99 9 0) 99 18 0) 99 19 0) 99 20 0) 0 false := by
      refine ⟨?_, fun i hi => ?_, ?_, ?_, by omega⟩
      · rw [F0 99 17 (by omega), hτ 99 17 (by unfold qb_rA qb_rM; omega), ← c1]; exact c2
      · rw [F0 113 i (by omega), hτ 113 i (by unfold qb_rA qb_rM; omega)]; exact (c3 i hi).symm
      · rw [qb_uN (by omega), qb_uN (by omega), qb_uE]; rfl
      · rw [qb_uN (by omega), qb_uE]; rfl
    obtain ⟨r1, r2⟩ := qd_153 (X := fun i => σ 84 i) (n := n) hN n96 S0 qb_uE
    exact ⟨_, rfl, r1, qb_Ft F0 r2 (fun _ _ h => by omega) (fun _ _ h => by omega)⟩
  cases hw : q9a_w (fun i => (σ 84 i).toInt) n 0 0 with
  | some p =>
    rw [hw] at w14
    have w14 : ma_14_83 N m1 = nI p := w14
    -- where the first wrong letter stands
    have pR : p ≤ n := by
      obtain ⟨μ, -, r1, -⟩ := rd σ qb_Fr
      rw [hw] at r1
      exact r1.2.2.2.2
    have e13 : ma_13_83_50 N m1 = (-1000 - nI p, m1) := by
      unfold ma_13_83_50
      dsimp only [qa_in]
      rw [w14, if_neg (show ¬ nI p < (0 : Int32) from qb_ltF (b := 0) (by omega) (by omega))]
    obtain ⟨τ, eτ⟩ : ∃ τ, τ = qa_u m1 83 0 0 := ⟨_, rfl⟩
    have e1 : ma_11_3 N σ = (-1000 - nI p, τ) := by
      unfold ma_11_3
      dsimp only [qa_in]
      rw [← em1, e13]
      dsimp only
      rw [if_neg (qd_k1 p (by omega)), eτ]
    rw [e1]
    dsimp only
    have tF : qb_F (fun a j => (a = 83 ∧ j = 0) ∨ (50 ≤ a ∧ a ≤ 72)) σ τ := fun a j h => by rw [eτ, qb_uN (by omega)]; exact a2 a j (by omega)
    obtain ⟨μ, eμ, r1, r2⟩ := rd τ (qb_Fw tF (fun _ _ h => by omega))
    rw [hw] at r1
    have r1 : qd_S _ n μ p true := r1
    have e2 : ma_153_99 N τ = (-1000 - nI p, qa_u μ 99 17 0) := by
      unfold ma_153_99
      dsimp only [qa_in]
      rw [← eμ, if_neg (show ¬ qa_u μ 99 17 0 99 19 = 0 by rw [qb_uN (by omega), r1.2.2.2.1]; decide), show qa_u μ 99 17 0 99 18 = nI p by rw [qb_uN (by omega)]; exact r1.2.2.1]
    rw [e2]
    refine ⟨rfl, ?_⟩
    dsimp only
    have all : qb_F (fun a j => (a = 83 ∧ j = 0) ∨ (50 ≤ a ∧ a ≤ 72) ∨ (a = 99 ∧ (j = 9 ∨ j = 17 ∨ j = 18 ∨ j = 19 ∨ j = 20)) ∨ (114 ≤ a ∧ a ≤ 116)) σ (qa_u μ 99 17 0) := fun a j h => by rw [qb_uN (by omega), r2 a j (by omega)]; exact tF a j (by omega)
    refine qd_fin0 hI all (fun a j r => by unfold qb_rB qb_rE qb_rW qb_rX qb_rY qb_rQ qb_rA qb_rM qb_rC at r; omega) (fun i hi => qb_mF all (fun b j hb => by omega) hi) ?_ qb_uE
    rw [qb_uN (by omega), r2 83 0 (by omega), eτ, qb_uE]
  | none =>
    rw [hw] at w14
    have w14 : ma_14_83 N m1 = -1 := w14
    -- the places, from a reading that nobody does
    obtain ⟨μ0, eμ0, z1, z2⟩ := rd σ qb_Fr
    rw [hw] at z1
    obtain ⟨zS, s, P, s1, s4, z20, zC, zP⟩ := z1
    have gm0 : ∀ i, i < 69 → qb_gm μ0 i = qb_gm σ i := fun i hi => qb_mF z2 (fun b j hb => by omega) hi
    have e13 : ma_13_83_50 N m1 = qa_cs (qa_wh (fun s => .inr s) (mc_13_83_50_p20 N) N ((0 : Int32), (0 : Int32), m1)) (fun b4 => (b4.1, b4.2)) (fun b4 => (b4.1, b4.2.2)) := by
      unfold ma_13_83_50
      dsimp only [qa_in]
      rw [w14, if_pos (show (-1 : Int32) < 0 by decide)]
    -- the reference behind its reading, from any state that the class leaves
    have rf : ∀ τ : qa_S, qb_F (fun a j => qb_rA a j ∧ ¬ qb_rM a j ∨ (a = 83 ∧ j = 0) ∨ (17 ≤ a ∧ a ≤ 23) ∨ (a = 3 ∧ j = 18) ∨ (a = 85 ∧ j = 0) ∨ (50 ≤ a ∧ a ≤ 72)) σ τ → ∃ m8 s' P', 1 ≤ s' ∧ s' ≤ 24 ∧ qd_C (fun i => σ 84 i) n m8 P' s' ∧ P' s' = n ∧ m8 99 20 = nI s' ∧ m8 99 17 = 0 ∧ (∀ i, i < 69 → m8 117 i = qb_gm σ i) ∧ (∀ i, i < 69 → qb_gm m8 i = qb_gm σ i) ∧ qb_F (fun a j => (a = 99 ∧ (j = 9 ∨ j = 17 ∨ j = 18 ∨ j = 19 ∨ j = 20 ∨ (27 ≤ j ∧ j ≤ 29))) ∨ (114 ≤ a ∧ a ≤ 117)) τ m8 ∧ ma_153_99 N τ = qa_cs (qa_wh (fun s => .inr s) (mc_153_99_p84 N) N ((0 : Int32), m8)) (fun b => (b.1, b.2)) (fun b => (qa_u b.2 99 32 0 99 20, qa_u b.2 99 32 0)) := by
      intro τ hτ
      obtain ⟨μ, eμ, y1, y2⟩ := rd τ hτ
      rw [hw] at y1
      obtain ⟨yS, s', P', t1, t4, y20, yC, yP⟩ := y1
      obtain ⟨b1, b2⟩ := qb_159_117T (σ := qa_u μ 99 17 0) (N := N) (by omega)
      obtain ⟨m8, e8⟩ : ∃ m, m = ma_159_99_117 N 1 (qa_u μ 99 17 0) := ⟨_, rfl⟩
      rw [← e8] at b1 b2
      have g6 : ∀ i, i < 69 → qb_gm (qa_u μ 99 17 0) i = qb_gm σ i := fun i hi => by
        rw [qb_mF (w := fun a j => a = 99 ∧ j = 17) (fun a j h => qb_uN (by omega)) (fun b j hb => by omega) hi, qb_mF y2 (fun b j hb => by omega) hi]
        exact qb_mF hτ (fun b j hb => by unfold qb_rA qb_rM; omega) hi
      have F8 : qb_F (fun a j => (a = 99 ∧ (j = 17 ∨ (27 ≤ j ∧ j ≤ 29))) ∨ a = 117) μ m8 := fun a j h => by rw [b2 a j (by omega), qb_uN (by omega)]
      refine ⟨m8, s', P', t1, by omega, ⟨yC.1, fun k hk => ?_⟩, yP, (F8 99 20 (by omega)).trans y20, by rw [b2 99 17 (by omega), qb_uE], fun i hi => (b1 i hi).trans (g6 i hi), fun i hi => ?_, qb_Ft y2 F8 (fun _ _ h => by omega) (fun _ _ h => by omega), ?_⟩
      · obtain ⟨d1, d2, d3, d4, d5, d6⟩ := yC.2 k hk
        exact ⟨d1, d2, d3, by rw [F8 114 k (by omega)]; exact d4, by rw [F8 115 k (by omega)]; exact d5, qd_VF F8 (fun i hi => by omega) d6⟩
      · rw [← g6 i hi]
        exact qb_mF b2 (fun b j hb => by omega) hi
      · unfold ma_153_99
        dsimp only [qa_in]
        rw [← eμ, if_pos (show qa_u μ 99 17 0 99 19 = 0 by rw [qb_uN (by omega)]; exact yS.2.2.2.1), ← e8]
    have zr := qd_run (X := fun i => σ 84 i) (s := s) (P := P) hN n96 (by omega) zP s 0 (qb_gm σ) m1 μ0 N N (by omega) (by omega) (by omega) m83 m84 zC z20 V1 gm0 iA.2
    rw [zC.1] at zr
    rcases zr with ⟨j, σc, σr, k1, k2, -, k4, -⟩ | ⟨V', σc, σr, k2, -, k3, -, k5, k6, -⟩
    · have k2 : qa_wh (fun s => .inr s) (mc_13_83_50_p20 N) N ((0 : Int32), (0 : Int32), m1) = .inl (-2000 - nI (P j), σc) := k2
      have pj : P j < n := (zC.2 j k1).2.2.1
      obtain ⟨τ, eτ⟩ : ∃ τ, τ = qa_u σc 83 0 0 := ⟨_, rfl⟩
      have e13' : ma_13_83_50 N m1 = (-2000 - nI (P j), σc) := by rw [e13, k2]; rfl
      have e1 : ma_11_3 N σ = (-2000 - nI (P j), τ) := by
        unfold ma_11_3
        dsimp only [qa_in]
        rw [← em1, e13']
        dsimp only
        rw [if_neg (qd_k2 (P j) (by omega)), eτ]
      rw [e1]
      dsimp only
      have k4 : qb_F (fun b j => (b = 50 ∧ j < 2) ∨ (51 ≤ b ∧ b ≤ 53) ∨ (55 ≤ b ∧ b ≤ 61) ∨ (70 ≤ b ∧ b ≤ 72)) m1 σc := k4
      have tF : qb_F (fun a j => (a = 83 ∧ j = 0) ∨ (50 ≤ a ∧ a ≤ 72)) σ τ := fun a j h => by rw [eτ, qb_uN (by omega), k4 a j (by omega)]; exact a2 a j (by omega)
      obtain ⟨m8, s', P', t1, t24, tC, tP, t20, t17, t117, tg, t8, te⟩ := rf τ (qb_Fw tF (fun _ _ h => by omega))
      have yr := qd_run (X := fun i => σ 84 i) (s := s') (P := P') hN n96 t24 tP s' 0 (qb_gm σ) m1 m8 N N (by omega) (by omega) (by omega) m83 m84 tC t20 V1 tg iA.2
      rw [tC.1] at yr
      rcases yr with ⟨j', σc', σr', l1, l2, l3, -, l5⟩ | ⟨V', σc', σr', l2, -⟩
      · have l2 : qa_wh (fun s => .inr s) (mc_13_83_50_p20 N) N ((0 : Int32), (0 : Int32), m1) = .inl (-2000 - nI (P' j'), σc') := l2
        have l3 : qa_wh (fun s => .inr s) (mc_153_99_p84 N) N ((0 : Int32), m8) = .inl (-2000 - nI (P' j'), ma_159_99_117 N 0 σr') := l3
        have l5 : qb_F (fun b j => (b = 99 ∧ (j = 0 ∨ j = 5)) ∨ (100 ≤ b ∧ b ≤ 106)) m8 σr' := l5
        rw [k2] at l2
        have ea := congrArg Prod.fst (Sum.inl.inj l2)
        dsimp only at ea
        rw [te, l3]
        dsimp only [qa_cs]
        refine ⟨ea, ?_⟩
        obtain ⟨u1, u2⟩ := qb_159_117U (σ := σr') (N := N) (by omega)
        have hm : ∀ i, i < 69 → qb_gm (ma_159_99_117 N 0 σr') i = qb_gm σ i := fun i hi => by rw [u1 i hi, l5 117 i (by omega)]; exact t117 i hi
        have all : qb_F (fun a j => (a = 83 ∧ j = 0) ∨ (50 ≤ a ∧ a ≤ 72) ∨ (a = 99 ∧ (j = 0 ∨ j = 5 ∨ j = 9 ∨ j = 17 ∨ j = 18 ∨ j = 19 ∨ j = 20 ∨ (27 ≤ j ∧ j ≤ 29))) ∨ (100 ≤ a ∧ a ≤ 106) ∨ (114 ≤ a ∧ a ≤ 117)) σ (ma_159_99_117 N 0 σr') := fun a j h => by rw [u2 a j (by omega), l5 a j (by omega), t8 a j (by omega)]; exact tF a j (by omega)
        refine qd_fin0 hI all (fun a j r => by unfold qb_rB qb_rE qb_rW qb_rX qb_rY qb_rQ qb_rA qb_rM qb_rC at r; omega) hm ?_ ?_
        · rw [u2 83 0 (by omega), l5 83 0 (by omega), t8 83 0 (by omega), eτ, qb_uE]
        · rw [u2 99 17 (by omega), l5 99 17 (by omega)]; exact t17
      · have l2 : qa_wh (fun s => .inr s) (mc_13_83_50_p20 N) N ((0 : Int32), (0 : Int32), m1) = .inr (nI s', nI n, σc') := l2
        rw [k2] at l2
        cases l2
    · have k2 : qa_wh (fun s => .inr s) (mc_13_83_50_p20 N) N ((0 : Int32), (0 : Int32), m1) = .inr (nI s, nI n, σc) := k2
      have k6 : qb_F (fun b j => (b = 50 ∧ j < 2) ∨ (51 ≤ b ∧ b ≤ 53) ∨ (55 ≤ b ∧ b ≤ 61) ∨ (70 ≤ b ∧ b ≤ 72)) m1 σc := k6
      obtain ⟨ρ0, eρ0⟩ : ∃ ρ, ρ = qa_u σc 83 0 0 := ⟨_, rfl⟩
      have ρF : qb_F (fun a j => (a = 83 ∧ j = 0) ∨ (50 ≤ a ∧ a ≤ 72)) σ ρ0 := fun a j h => by rw [eρ0, qb_uN (by omega), k6 a j (by omega)]; exact a2 a j (by omega)
      obtain ⟨b1, b2⟩ := qb_12_4_50 (σ := ρ0) (N := N) (by omega)
      have b1' : ∀ i, i < 69 → qb_gc 4 (ma_12_4_50 N ρ0) i = V' i := fun i hi => by
        rw [b1 i hi, eρ0, qb_cF (w := fun a _ => a = 83) (fun a j h => qb_uA h) (fun b j hb => by omega) hi]
        exact k3 i hi
      obtain ⟨g1, g2, g3, g4, g5⟩ := qb_27 (σ := ma_12_4_50 N ρ0) (N := N) (by omega) b1' k5
      obtain ⟨τ, eτ⟩ : ∃ τ, τ = ma_27_3 N (ma_12_4_50 N ρ0) := ⟨_, rfl⟩
      rw [← eτ] at g1 g2 g3 g4 g5
      have e13' : ma_13_83_50 N m1 = (nI s, σc) := by rw [e13, k2]; rfl
      have e1 : ma_11_3 N σ = (nI s, τ) := by
        unfold ma_11_3
        dsimp only [qa_in]
        rw [← em1, e13']
        dsimp only
        rw [if_pos (show (0 : Int32) < nI s from qb_ltT (a := 0) (by omega) (by omega)), ← eρ0, ← eτ]
      rw [e1]
      dsimp only
      have tF : qb_F (fun a j => (a = 83 ∧ j = 0) ∨ (50 ≤ a ∧ a ≤ 72) ∨ ((a = 4 ∧ j < 2) ∨ (5 ≤ a ∧ a ≤ 7) ∨ (9 ≤ a ∧ a ≤ 15) ∨ (24 ≤ a ∧ a ≤ 26)) ∨ (17 ≤ a ∧ a < 24) ∨ (a = 3 ∧ j = 18) ∨ (a = 85 ∧ j = 0)) σ τ := qb_Ft ρF (qb_Ft b2 g5 (w := fun a j => ((a = 4 ∧ j < 2) ∨ (5 ≤ a ∧ a ≤ 7) ∨ (9 ≤ a ∧ a ≤ 15) ∨ (24 ≤ a ∧ a ≤ 26)) ∨ (17 ≤ a ∧ a < 24) ∨ (a = 3 ∧ j = 18) ∨ (a = 85 ∧ j = 0)) (fun _ _ h => by omega) (fun _ _ h => by omega)) (fun _ _ h => by omega) (fun _ _ h => by omega)
      obtain ⟨m8, s', P', t1, t24, tC, tP, t20, t17, t117, tg, t8, te⟩ := rf τ (qb_Fw tF (fun _ _ h => by unfold qb_rA qb_rM; omega))
      have yr := qd_run (X := fun i => σ 84 i) (s := s') (P := P') hN n96 t24 tP s' 0 (qb_gm σ) m1 m8 N N (by omega) (by omega) (by omega) m83 m84 tC t20 V1 tg iA.2
      rw [tC.1] at yr
      rcases yr with ⟨j', σc', σr', l1, l2, -⟩ | ⟨V2, σc', σr', l2, l3, l4, l5, -, -, l8⟩
      · have l2 : qa_wh (fun s => .inr s) (mc_13_83_50_p20 N) N ((0 : Int32), (0 : Int32), m1) = .inl (-2000 - nI (P' j'), σc') := l2
        rw [k2] at l2
        cases l2
      · have l2 : qa_wh (fun s => .inr s) (mc_13_83_50_p20 N) N ((0 : Int32), (0 : Int32), m1) = .inr (nI s', nI n, σc') := l2
        have l3 : qa_wh (fun s => .inr s) (mc_153_99_p84 N) N ((0 : Int32), m8) = .inr (nI s', σr') := l3
        have l8 : qb_F (fun b j => (b = 99 ∧ (j = 0 ∨ j = 5)) ∨ (100 ≤ b ∧ b ≤ 106)) m8 σr' := l8
        rw [k2] at l2
        have ea := congrArg Prod.fst (Sum.inr.inj l2)
        have eb := congrArg (fun z => z.2.2) (Sum.inr.inj l2)
        dsimp only at ea eb
        subst eb
        rw [te, l3]
        dsimp only [qa_cs]
        have r20 : σr' 99 20 = nI s' := (l8 99 20 (by omega)).trans t20
        refine ⟨by rw [qb_uN (by omega), r20]; exact ea, ?_⟩
        obtain ⟨ρ, eρ⟩ : ∃ ρ, ρ = qa_u σr' 99 32 0 := ⟨_, rfl⟩
        rw [← eρ]
        have V12 : ∀ i, i < 69 → V2 i = V' i := fun i hi => (l4 i hi).symm.trans (k3 i hi)
        have rm : ∀ i, i < 69 → qb_gm ρ i = V' i := fun i hi => by
          rw [eρ, qb_mF (w := fun a j => a = 99 ∧ j = 32) (fun a j h => qb_uN (by omega)) (fun b j hb => by omega) hi, l5 i hi]
          exact V12 i hi
        have tρ : qb_F (fun a j => (a = 99 ∧ (j = 0 ∨ j = 5 ∨ j = 9 ∨ j = 17 ∨ j = 18 ∨ j = 19 ∨ j = 20 ∨ j = 32 ∨ (27 ≤ j ∧ j ≤ 29))) ∨ (100 ≤ a ∧ a ≤ 106) ∨ (114 ≤ a ∧ a ≤ 117)) τ ρ := fun a j h => by rw [eρ, qb_uN (by omega), l8 a j (by omega), t8 a j (by omega)]
        have all : qb_F (fun a j => ((a = 83 ∧ j = 0) ∨ (50 ≤ a ∧ a ≤ 72) ∨ ((a = 4 ∧ j < 2) ∨ (5 ≤ a ∧ a ≤ 7) ∨ (9 ≤ a ∧ a ≤ 15) ∨ (24 ≤ a ∧ a ≤ 26)) ∨ (17 ≤ a ∧ a < 24) ∨ (a = 3 ∧ j = 18) ∨ (a = 85 ∧ j = 0)) ∨ (a = 99 ∧ (j = 0 ∨ j = 5 ∨ j = 9 ∨ j = 17 ∨ j = 18 ∨ j = 19 ∨ j = 20 ∨ j = 32 ∨ (27 ≤ j ∧ j ≤ 29))) ∨ (100 ≤ a ∧ a ≤ 106) ∨ (114 ≤ a ∧ a ≤ 117)) σ ρ := qb_Ft tF tρ (fun _ _ h => Or.inl h) (fun _ _ h => Or.inr h)
        refine ⟨⟨fun i hi => ?_, qb_Dx rm k5⟩, qb_BF all (fun a j r => by unfold qb_rB at r; omega) iB, ⟨?_, ⟨0, by omega, ?_⟩, fun i hi => ?_⟩, ⟨0, by omega, (tρ 85 0 (by omega)).trans g4, by rw [eρ, qb_uE]; rfl, fun j hj => absurd hj (Nat.not_lt_zero _)⟩, qb_WF all (fun a j r => by unfold qb_rW at r; omega) iW, fun hx => qb_XF all (fun a j r => by unfold qb_rX at r; omega) (iX hx), fun c m hc hm => ?_, fun _ h => ?_⟩
        · rw [rm i hi, ← g1 i hi]
          exact qb_cF tρ (fun b j hb => by omega) hi
        · rw [tρ 83 0 (by omega), g5 83 0 (by omega), b2 83 0 (by omega), eρ0, qb_uE, eρ, qb_uN (by omega), l8 99 17 (by omega)]; exact t17.symm
        · rw [tρ 83 0 (by omega), g5 83 0 (by omega), b2 83 0 (by omega), eρ0, qb_uE]; rfl
        · rw [all 84 i (by omega), all 113 i (by omega)]; exact c3 i hi
        · rw [rm 0 (by omega)] at hc
          have hn : (V' 0).toInt ≤ 7 := (k5 0 (by omega)).2
          rw [tρ (17 + c) m (by omega), g2 c m hc hm]
          exact qb_TVx (fun i hi => (rm i hi).symm) (by omega) hm
        · rw [tρ 3 18 (by omega), g3] at h
          exact absurd h (by decide)
