/-! WHAT HOLDS BETWEEN CALLS, the mixed glasses too -/
def qk_M (σ : qa_S) : Prop := qk_N σ ∧ qb_iQ σ
section QM
variable {σ τ : qa_S} {N : Nat}
theorem qk_MF {w : Nat → Nat → Prop} (h : qb_F w σ τ) (hw : ∀ a j, qb_rQ a j ∨ a = 1 → ¬ w a j) (hM : qk_M σ) : qk_M τ := by
  obtain ⟨⟨⟨n, n7, n1⟩, p⟩, hQ⟩ := hM
  exact ⟨⟨⟨n, n7, (h 4 0 (hw _ _ (Or.inl (by unfold qb_rQ; omega)))).trans n1⟩, fun k hk => (h 1 k (hw _ _ (Or.inr rfl))).trans (p k hk)⟩, qb_QF h (fun a j r => hw a j (Or.inl r)) hQ⟩
theorem qk_mu {a j : Nat} {v : Int32} (ha : (5 ≤ a ∧ a ≤ 7) ∨ (24 ≤ a ∧ a ≤ 26) ∨ (80 ≤ a)) (hM : qk_M σ) : qk_M (qa_u σ a j v) := qk_MF (w := fun b _ => b = a) (fun b i h => qb_uA h) (fun b i r => by unfold qb_rQ at r; omega) hM
theorem qk_mw : ∀ a j, qb_sc a j → ∀ s v, qk_M s → qk_M (qa_u s a j v) := fun a j h s v hs => qk_mu (by unfold qb_sc at h; omega) hs
theorem qk_mm (hN : 5000 ≤ N) : ∀ s, qk_M s → qk_M (ma_72_3 N s) := fun s hs => by
  obtain ⟨q1, -, q3⟩ := qk_72 (N := N) hN hs.1 hs.2
  obtain ⟨⟨n, n7, n1⟩, p⟩ := hs.1
  exact ⟨⟨⟨n, n7, (q3 4 0 (by omega)).trans n1⟩, fun k hk => (q3 1 k (by omega)).trans (p k hk)⟩, q1⟩
theorem qk_up (J : qb_I False False τ) (hM : qk_M τ) : qb_I False True τ := ⟨J.1, J.2.1, J.2.2.1, J.2.2.2.1, J.2.2.2.2.1, fun h => h.elim, J.2.2.2.2.2.2.1, fun _ => hM.2⟩
theorem qk_dw (J : qb_I False True τ) : qb_I False False τ := ⟨J.1, J.2.1, J.2.2.1, J.2.2.2.1, J.2.2.2.2.1, fun h => h.elim, J.2.2.2.2.2.2.1, fun h => h.elim⟩
/-! the calls that think otherwise -/
theorem qx_117 {a b : Int32} (hN : 5000 ≤ N) (h : qk_M σ) : qk_M (ma_117_3 N a b σ) := by
  unfold ma_117_3
  dsimp only [qa_in]
  exact qk_mu (by omega) (mf_47_4 qk_mw (qk_mm hN) qb_q95 (qk_mu (by omega) h))
theorem qx_115 (hN : 5000 ≤ N) (h : qk_M σ) : qk_M (ma_115_3 N σ).2 := by
  unfold ma_115_3
  dsimp only [qa_in]
  refine qb_whP (I := fun (s : Int32 × Int32 × Int32 × qa_S) => qk_M s.2.2.2) (Q := fun (s : Int32 × Int32 × Int32 × qa_S) => qk_M s.2.2.2) (fun s h => h) (fun s h => ?_) N _ (mf_87_3 qk_mw (qk_mm hN) h)
  unfold mc_115_3_p14
  refine qb_ifP (P := fun x => qa_cs x (fun (s : Int32 × Int32 × Int32 × qa_S) => qk_M s.2.2.2) (fun (s : Int32 × Int32 × Int32 × qa_S) => qk_M s.2.2.2)) ?_ h
  exact qk_mu (by omega) (mf_87_3 qk_mw (qk_mm hN) (qk_mu (by omega) h))
theorem qx_116 (hN : 5000 ≤ N) (h : qk_M σ) : qk_M (ma_116_3 N σ).2 := by
  unfold ma_116_3
  dsimp only [qa_in]
  refine qb_whP (I := fun (s : Int32 × Int32 × Int32 × qa_S) => qk_M s.2.2.2) (Q := fun (s : Int32 × Int32 × Int32 × qa_S) => qk_M s.2.2.2) (fun s h => h) (fun s h => ?_) N _ (mf_87_3 qk_mw (qk_mm hN) h)
  unfold mc_116_3_p14
  refine qb_ifP (P := fun x => qa_cs x (fun (s : Int32 × Int32 × Int32 × qa_S) => qk_M s.2.2.2) (fun (s : Int32 × Int32 × Int32 × qa_S) => qk_M s.2.2.2)) ?_ h
  exact qb_ifP (P := fun z => qk_M z) (qk_mm hN _ (mf_66_3 qk_mw (qk_mm hN) (qx_117 hN h))) h
theorem qx_123 {a : Int32} (hN : 5000 ≤ N) (h : qk_M σ) : qk_M (ma_123_3 N a σ).2 := by
  unfold ma_123_3
  refine qb_ifP (P := fun (z : Int32 × qa_S) => qk_M z.2) (mf_9_3 qk_mw (qk_mm hN) h) ?_
  dsimp only [qa_in]
  refine qb_whP (I := fun (s : Int32 × Int32 × Int32 × qa_S) => qk_M s.2.2.2) (Q := fun (s : Int32 × Int32 × Int32 × qa_S) => qk_M s.2.2.2) (fun s h => h) (fun s h => ?_) N _ (mf_46_3 qk_mw (qk_mm hN) h)
  unfold mc_123_3_p26
  refine qb_ifP (P := fun x => qa_cs x (fun (s : Int32 × Int32 × Int32 × qa_S) => qk_M s.2.2.2) (fun (s : Int32 × Int32 × Int32 × qa_S) => qk_M s.2.2.2)) ?_ h
  unfold qa_in qa_cs
  dsimp only
  refine qb_whP (I := fun (s : Int32 × Int32 × Int32 × qa_S) => qk_M s.2.2.2) (Q := fun (s : Int32 × Int32 × Int32 × qa_S) => qk_M s.2.2.2) (fun s h => h) (fun s h => ?_) N _ h
  unfold mc_123_3_p56
  refine qb_ifP (P := fun x => qa_cs x (fun (s : Int32 × Int32 × Int32 × qa_S) => qk_M s.2.2.2) (fun (s : Int32 × Int32 × Int32 × qa_S) => qk_M s.2.2.2)) h ?_
  exact qb_ifP (P := fun z => qk_M z) h (qb_ifP (P := fun z => qk_M z) h (qx_117 hN h))
theorem qx_128 {a : Int32} (hN : 5000 ≤ N) (h : qk_M σ) : qk_M (ma_128_3 N a σ).2 := by
  unfold ma_128_3
  refine qb_ifP (P := fun (z : Int32 × qa_S) => qk_M z.2) (mf_9_3 qk_mw (qk_mm hN) h) ?_
  refine qb_ifP (P := fun (z : Int32 × qa_S) => qk_M z.2) (mf_9_3 qk_mw (qk_mm hN) h) ?_
  dsimp only [qa_in]
  refine qk_mu (by omega) ?_
  refine qb_whP (I := fun (s : Int32 × Int32 × qa_S) => qk_M s.2.2) (Q := fun (s : Int32 × Int32 × qa_S) => qk_M s.2.2) (fun s h => h) (fun s h => ?_) N _ (qk_mu (by omega) (mf_46_3 qk_mw (qk_mm hN) h))
  unfold mc_128_3_p57
  refine qb_ifP (P := fun x => qa_cs x (fun (s : Int32 × Int32 × qa_S) => qk_M s.2.2) (fun (s : Int32 × Int32 × qa_S) => qk_M s.2.2)) ?_ h
  exact qb_ifP (P := fun z => qk_M z) h (qx_117 hN h)
theorem qx_219 (hN : 5000 ≤ N) (h : qk_M σ) : qk_M (ma_219_99 N σ).2 := by
  unfold ma_219_99
  dsimp only [qa_in]
  refine qb_whP (I := fun (s : Int32 × Int32 × qa_S) => qk_M s.2.2) (Q := fun (s : Int32 × Int32 × qa_S) => qk_M s.2.2) (fun s h => h) (fun s h => ?_) N _ (mf_180_99 qk_mw (qk_mm hN) (qk_mu (by omega) h))
  unfold mc_219_99_p13
  refine qb_ifP (P := fun x => qa_cs x (fun (s : Int32 × Int32 × qa_S) => qk_M s.2.2) (fun (s : Int32 × Int32 × qa_S) => qk_M s.2.2)) ?_ h
  exact qb_ifP (P := fun z => qk_M z) (qk_mu (by omega) (mf_218_99 qk_mw (qk_mm hN) (mf_181_99 qk_mw (qk_mm hN) (qk_mu (by omega) h)))) h
theorem qx_229 (hN : 5000 ≤ N) (h : qk_M σ) : qk_M (ma_229_99 N σ).2 := by
  unfold ma_229_99
  dsimp only [qa_in]
  refine qb_whP (I := fun (s : Int32 × Int32 × Int32 × qa_S) => qk_M s.2.2.2) (Q := fun (s : Int32 × Int32 × Int32 × qa_S) => qk_M s.2.2.2) (fun s h => h) (fun s h => ?_) N _ (mf_193_99 qk_mw (qk_mm hN) (qk_mu (by omega) h))
  unfold mc_229_99_p15
  refine qb_ifP (P := fun x => qa_cs x (fun (s : Int32 × Int32 × Int32 × qa_S) => qk_M s.2.2.2) (fun (s : Int32 × Int32 × Int32 × qa_S) => qk_M s.2.2.2)) ?_ h
  exact qk_mu (by omega) (mf_193_99 qk_mw (qk_mm hN) (qk_mu (by omega) h))
theorem qx_230 (hN : 5000 ≤ N) (h : qk_M σ) : qk_M (ma_230_99 N σ).2 := by
  unfold ma_230_99
  dsimp only [qa_in]
  refine qb_whP (I := fun (s : Int32 × Int32 × Int32 × qa_S) => qk_M s.2.2.2) (Q := fun (s : Int32 × Int32 × Int32 × qa_S) => qk_M s.2.2.2) (fun s h => h) (fun s h => ?_) N _ (mf_193_99 qk_mw (qk_mm hN) (qk_mu (by omega) h))
  unfold mc_230_99_p15
  refine qb_ifP (P := fun x => qa_cs x (fun (s : Int32 × Int32 × Int32 × qa_S) => qk_M s.2.2.2) (fun (s : Int32 × Int32 × Int32 × qa_S) => qk_M s.2.2.2)) ?_ h
  exact qb_ifP (P := fun z => qk_M z) (qk_mu (by omega) (mf_193_99 qk_mw (qk_mm hN) (qk_mu (by omega) h))) h
theorem qx_240 {a b c : Int32} (hN : 5000 ≤ N) (h : qk_M σ) : qk_M (ma_240_99 N a b c σ).2 := by
  have h1 : qk_M (qa_u σ 99 9 0) := qk_mu (by omega) h
  unfold ma_240_99
  refine qb_inP (P := fun (z : Int32 × qa_S) => qk_M z.2) (fun m em => ?_)
  rw [← em] at h1
  have hr : qk_M (ma_152_99 (-1) m).2 := mf_152_99 qk_mw (qk_mm hN) h1
  refine qb_ifP (P := fun (z : Int32 × qa_S) => qk_M z.2) hr ?_
  refine qb_ifP (P := fun (z : Int32 × qa_S) => qk_M z.2) hr ?_
  refine qb_ifP (P := fun (z : Int32 × qa_S) => qk_M z.2) hr ?_
  refine qb_ifP (P := fun (z : Int32 × qa_S) => qk_M z.2) hr ?_
  dsimp only [qa_in]
  refine qk_mu (by omega) ?_
  refine qb_whP (I := fun (s : Int32 × Int32 × qa_S) => qk_M s.2.2) (Q := fun (s : Int32 × Int32 × qa_S) => qk_M s.2.2) (fun s h => h) (fun s h => ?_) N _ (mf_181_99 qk_mw (qk_mm hN) h1)
  unfold mc_240_99_p59
  refine qb_ifP (P := fun x => qa_cs x (fun (s : Int32 × Int32 × qa_S) => qk_M s.2.2) (fun (s : Int32 × Int32 × qa_S) => qk_M s.2.2)) h ?_
  exact qk_mu (by omega) h
theorem qx_250 {a b c : Int32} (hN : 5000 ≤ N) (h : qk_M σ) : qk_M (ma_250_99 N a b c σ).2 := by
  have h1 : qk_M (qa_u σ 99 9 0) := qk_mu (by omega) h
  unfold ma_250_99
  refine qb_inP (P := fun (z : Int32 × qa_S) => qk_M z.2) (fun m em => ?_)
  rw [← em] at h1
  refine qb_ifP (P := fun (z : Int32 × qa_S) => qk_M z.2) (mf_152_99 qk_mw (qk_mm hN) h1) ?_
  dsimp only [qa_in]
  obtain ⟨-, c2⟩ := qb_159_117T (σ := m) (N := N) (by omega)
  have h2 : qk_M (ma_159_99_117 N 1 m) := qk_MF c2 (fun x j r => by unfold qb_rQ at r; omega) h1
  generalize ma_159_99_117 N 1 m = μ at h2
  have h3 : qk_M (qa_wh (fun s => s) (mc_250_99_p52 N a c) N ((0 : Int32), b, (0 : Int32), (0 : Int32), μ)).2.2.2.2 := by
    refine qb_whP (I := fun (s : Int32 × Int32 × Int32 × Int32 × qa_S) => qk_M s.2.2.2.2) (Q := fun (s : Int32 × Int32 × Int32 × Int32 × qa_S) => qk_M s.2.2.2.2) (fun s h => h) (fun s h => ?_) N _ h2
    unfold mc_250_99_p52
    refine qb_ifP (P := fun x => qa_cs x (fun (s : Int32 × Int32 × Int32 × Int32 × qa_S) => qk_M s.2.2.2.2) (fun (s : Int32 × Int32 × Int32 × Int32 × qa_S) => qk_M s.2.2.2.2)) ?_ h
    have h4 : qk_M (qa_wh (fun s => s) (mc_250_99_p64 N a c s.2.2.1 s.2.2.2.1 s.1) N ((0 : Int32), s.2.1, (0 : Int32), s.2.2.2.2)).2.2.2 := by
      refine qb_whP (I := fun (s : Int32 × Int32 × Int32 × qa_S) => qk_M s.2.2.2) (Q := fun (s : Int32 × Int32 × Int32 × qa_S) => qk_M s.2.2.2) (fun s h => h) (fun s h => ?_) N _ h
      unfold mc_250_99_p64
      refine qb_ifP (P := fun x => qa_cs x (fun (s : Int32 × Int32 × Int32 × qa_S) => qk_M s.2.2.2) (fun (s : Int32 × Int32 × Int32 × qa_S) => qk_M s.2.2.2)) ?_ h
      exact qk_mu (by omega) h
    exact qb_ifP (P := fun z => qk_M z) h4 (mf_193_99 qk_mw (qk_mm hN) h4)
  generalize (qa_wh (fun s => s) (mc_250_99_p52 N a c) N ((0 : Int32), b, (0 : Int32), (0 : Int32), μ)).2.2.2.2 = ρ at h3
  obtain ⟨-, u2⟩ := qb_159_117U (σ := ρ) (N := N) (by omega)
  exact qk_MF u2 (fun x j r => by unfold qb_rQ at r; omega) h3
theorem qx_47F {a1 : Nat} {a2 a3 : Int32} : qb_F (fun a _ => a = 95) σ (ma_47_4 N a1 a2 a3 95 σ) := by
  unfold ma_47_4
  dsimp only [qa_in]
  refine qb_whP (I := fun (s : Int32 × qa_S) => qb_F (fun a _ => a = 95) σ s.2) (Q := fun (s : Int32 × qa_S) => qb_F (fun a _ => a = 95) σ s.2) (fun s h => h) (fun s h => ?_) N _ qb_Fr
  unfold mc_47_4_p3
  refine qb_ifP (P := fun x => qa_cs x (fun (s : Int32 × qa_S) => qb_F (fun a _ => a = 95) σ s.2) (fun (s : Int32 × qa_S) => qb_F (fun a _ => a = 95) σ s.2)) ?_ h
  exact qb_Ft h (qb_Fu (w := fun a _ => a = 95) rfl) (fun _ _ h => h) (fun _ _ h => h)
/-- the class brews otherwise and back: what is written -/
theorem qx_101F {n c : Nat} (hN : 5000 ≤ N) (n7 : n ≤ 7) (n1 : σ 4 0 = nI n) (hc : c < 7) : qb_F (fun a _ => a = 95 ∨ (17 ≤ a ∧ a < 24)) σ (ma_101_3 N (nI c) σ) := by
  unfold ma_101_3
  dsimp only [qa_in]
  rw [qb_n (k := c) (by omega)]
  obtain ⟨m1, e1⟩ : ∃ m, m = qa_u σ 5 c 4 := ⟨_, rfl⟩
  rw [← e1]
  have F2 : qb_F (fun a _ => 17 ≤ a ∧ a < 24) m1 (ma_29_4 N m1) := (qb_29 (σ := m1) (N := N) (n := n) (K := fun c => m1 5 c) (F := fun c => m1 6 c) (R := fun c m => m1 (9 + c) m) (by omega) n7 (by rw [e1, qb_uA (by omega)]; exact n1) (fun _ _ => rfl) (fun _ _ => rfl) (fun _ _ _ _ => rfl)).2
  obtain ⟨m2, e2⟩ : ∃ m, m = ma_29_4 N m1 := ⟨_, rfl⟩
  rw [← e2] at F2 ⊢
  have F3 : qb_F (fun a _ => a = 95) m2 (ma_47_4 N 7 (-1) 0 95 m2) := qx_47F
  obtain ⟨m3, e3⟩ : ∃ m, m = ma_47_4 N 7 (-1) 0 95 m2 := ⟨_, rfl⟩
  rw [← e3] at F3 ⊢
  obtain ⟨m4, e4⟩ : ∃ m, m = qa_u m3 5 c (σ 5 c) := ⟨_, rfl⟩
  rw [← e4]
  have F4 : qb_F (fun a _ => a = 95 ∨ (17 ≤ a ∧ a < 24)) σ m4 := fun a j hx => by
    rw [e4]
    by_cases e : a = 5 ∧ j = c
    · rw [e.1, e.2, qb_uE]
    · rw [qb_uN (by omega), F3 a j (by omega), F2 a j (by omega), e1, qb_uN (by omega)]
  have F5 : qb_F (fun a _ => 17 ≤ a ∧ a < 24) m4 (ma_29_4 N m4) := (qb_29 (σ := m4) (N := N) (n := n) (K := fun c => m4 5 c) (F := fun c => m4 6 c) (R := fun c m => m4 (9 + c) m) (by omega) n7 ((F4 4 0 (by omega)).trans n1) (fun _ _ => rfl) (fun _ _ => rfl) (fun _ _ _ _ => rfl)).2
  exact qb_Ft F4 F5 (fun _ _ h => h) (fun _ _ h => Or.inr h)
theorem qx_101 {c : Nat} (hN : 5000 ≤ N) (hc : c < 7) (hI : qb_I False False σ) (h : qk_M σ) : qk_M (ma_101_3 N (nI c) σ) := by
  obtain ⟨n, n7, n1, -, n3⟩ := qb_An hI.1
  have F := qx_101F (N := N) hN n7 n1 hc
  have J := qe_101 (N := N) hN hc hI
  obtain ⟨μ, eμ⟩ : ∃ μ, μ = ma_101_3 N (nI c) σ := ⟨_, rfl⟩
  rw [← eμ] at F J ⊢
  have hm : ∀ i, i < 69 → qb_gm μ i = qb_gm σ i := fun i hi => qb_mF F (fun b j hb => by omega) hi
  have T : ∀ c m, c < n → m < 4 → μ (17 + c) m = σ (17 + c) m := fun c m hc hm4 => by
    rw [J.2.2.2.2.2.2.1 c m (by rw [hm 0 (by omega), n3]; omega) hm4, hI.2.2.2.2.2.2.1 c m (by rw [n3]; omega) hm4]
    exact qb_TVx hm (by omega) hm4
  refine ⟨⟨⟨n, n7, (F 4 0 (by omega)).trans n1⟩, fun k hk => (F 1 k (by omega)).trans (h.1.2 k hk)⟩, fun a h1 h2 => (F a 0 (by omega)).trans (h.2.1 a h1 h2), fun h0 n' n7' hc' => ?_⟩
  rw [F 3 18 (by omega)] at h0
  have e : n' = n := by rw [F 4 0 (by omega), n1] at hc'; exact ((qb_eq (by omega) (by omega)).mp hc').symm
  subst e
  obtain ⟨g1, g2, g3⟩ := h.2.2 h0 n' n7 n1
  refine ⟨(F 73 0 (by omega)).trans g1, (F 73 1 (by omega)).trans g2, fun g ga gb => ⟨(F 79 g (by omega)).trans (g3 g ga gb).1, fun m hm => ?_⟩⟩
  rw [F (75 + m) g (by omega), (g3 g ga gb).2 m hm]
  exact qb_glx (fun c hc => (T c m hc hm).symm)
theorem qx_100 (hN : 5000 ≤ N) (hI : qb_I False False σ) (h : qk_M σ) : qk_M (ma_100_3 N σ).2 := by
  unfold ma_100_3
  dsimp only [qa_in]
  obtain ⟨n, n7, n1, -, -⟩ := qb_An hI.1
  have h0 : qb_F qb_sm2 σ (ma_46_3 N σ) := mf_46_3 qb_hw (qb_hm (by omega)) qb_Fr
  refine qb_l0 (fun (k : Nat) (s : Int32 × Int32 × qa_S) => s.1 = nI k ∧ qb_I False False s.2.2 ∧ qk_M s.2.2 ∧ s.2.2 4 0 = nI n) (fun (s : Int32 × Int32 × qa_S) => qk_M s.2.2) n (by omega) ⟨rfl, qb_scI h0 hI, mf_46_3 qk_mw (qk_mm hN) h, (h0 4 0 (by unfold qb_sm2 qb_sc; omega)).trans n1⟩ ?_ ?_
  · rintro k ⟨s1, s2, s3⟩ hk ⟨h1, h2, h3, h4⟩
    dsimp only at h1 h2 h3 h4
    subst h1
    unfold mc_100_3_p8
    dsimp only [qa_in]
    rw [if_pos (by rw [h4]; exact qb_ltT hk (by omega)), qb_s]
    have g1 := qe_101 (N := N) (c := k) hN (by omega) h2
    have g3 := qx_101 (N := N) (c := k) hN (by omega) h2 h3
    have g2 := (qx_101F (N := N) hN n7 h4 (show k < 7 by omega)) 4 0 (by omega)
    exact ⟨_, rfl, rfl, qb_ifP (P := fun z => qb_I False False z) h2 g1, qb_ifP (P := fun z => qk_M z) h3 g3, qb_ifP (P := fun (z : qa_S) => z 4 0 = nI n) h4 (g2.trans h4)⟩
  · rintro ⟨s1, s2, s3⟩ ⟨h1, h2, h3, h4⟩
    dsimp only at h1 h2 h3 h4
    subst h1
    unfold mc_100_3_p8
    dsimp only [qa_in]
    rw [if_neg (by rw [h4]; exact qb_ltF (Nat.le_refl _) (by omega))]
    exact ⟨_, rfl, h3⟩
theorem qx_141 {a : Int32} (hN : 5000 ≤ N) (h : qk_M σ) : qk_M (ma_141_3 N a σ).2 := by
  unfold ma_141_3
  refine qb_ifP (P := fun (z : Int32 × qa_S) => qk_M z.2) (mf_9_3 (N := N) qk_mw (qk_mm hN) h) ?_
  dsimp only [qa_in]
  have h1 := mg_141_3_p18 (P := qk_M) (N := N) (n := N) (l1 := a) (s := (0, -9, σ)) qk_mw (qk_mm hN) h
  exact qk_MF (w := fun a j => a = 3 ∧ j = 16) (qb_Fu ⟨rfl, rfl⟩) (fun b i r => by unfold qb_rQ at r; omega) h1
theorem qx_248 {a : Int32} (hN : 5000 ≤ N) (h : qk_M σ) : qk_M (ma_248_99 N a σ).2 := by
  unfold ma_248_99
  dsimp only [qa_in]
  refine qb_ifP (P := fun (z : Int32 × qa_S) => qk_M z.2) (mf_152_99 (N := N) qk_mw (qk_mm hN) (qk_mu (by omega) h)) ?_
  have h1 := mf_180_99 (P := qk_M) (N := N) (σ := qa_u (qa_u σ 99 9 0) 99 35 0) qk_mw (qk_mm hN) (qk_mu (by omega) (qk_mu (by omega) h))
  exact qb_csP (P := fun (z : Int32 × qa_S) => qk_M z.2) (fun _ _ => h1) (fun _ _ => h1)
end QM
