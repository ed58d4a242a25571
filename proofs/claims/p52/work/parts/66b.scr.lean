/-! scratch places, the mixing of all glasses: what holds between calls stays -/
theorem qb_JF {w : Nat → Nat → Prop} {σ τ : qa_S} (h : qb_F w σ τ) (hw : ∀ a j, qb_rA a j ∨ qb_rB a j ∨ qb_rC a j ∨ qb_rE a j ∨ qb_rW a j ∨ qb_rY a j → ¬ w a j) (hI : qb_I False False σ) : qb_I False False τ := by
  obtain ⟨iA, iB, iC, iE, iW, iX, iY, iQ⟩ := hI
  have hm : ∀ i, i < 69 → qb_gm τ i = qb_gm σ i := fun i hi => qb_mF h (fun b j hb => hw b j (Or.inl (by unfold qb_rA; omega))) hi
  exact ⟨qb_AF h (fun a j r => hw a j (Or.inl r)) iA, qb_BF h (fun a j r => hw a j (Or.inr (Or.inl r))) iB, qb_CF h (fun a j r => hw a j (Or.inr (Or.inr (Or.inl r)))) iC, qb_EF h (fun a j r => hw a j (Or.inr (Or.inr (Or.inr (Or.inl r))))) hm iE, qb_WF h (fun a j r => hw a j (Or.inr (Or.inr (Or.inr (Or.inr (Or.inl r)))))) iW, fun h => h.elim, qb_YF h (fun a j r => hw a j (Or.inr (Or.inr (Or.inr (Or.inr (Or.inr r)))))) iA hm iY, fun h => h.elim⟩
/-- scratch, and what the mixing of all glasses writes -/
def qb_sm2 (a j : Nat) : Prop := qb_sc a j ∨ (a = 3 ∧ j = 18) ∨ a = 73 ∨ (75 ≤ a ∧ a ≤ 79)
theorem qb_scI {σ τ : qa_S} (h : qb_F qb_sm2 σ τ) (hI : qb_I False False σ) : qb_I False False τ := qb_JF h (fun a j r => by
  unfold qb_sm2 qb_sc
  unfold qb_rA qb_rB qb_rC qb_rE qb_rW qb_rY at r
  omega) hI
theorem qb_scu {σ τ : qa_S} {a j : Nat} {v : Int32} (h : qb_F qb_sm2 σ τ) (hs : qb_sm2 a j) : qb_F qb_sm2 σ (qa_u τ a j v) := qb_Ft h (qb_Fu hs) (fun _ _ h => h) (fun _ _ h => h)
section Q66
variable {σ : qa_S} {N : Nat}
/-- four marks: a loop over them that writes at 75 + mark -/
theorem qb_4m {B : Type} {e : Int32 × qa_S → B} {step : Int32 × qa_S → (Int32 × qa_S) ⊕ B} {Q : B → Prop} {s : Int32 × qa_S} (hN : 5 ≤ N) (h0 : s.1 = 0) (h : qb_F qb_sm2 σ s.2) (hs : ∀ k τ, k < 4 → qb_F qb_sm2 σ τ → (∃ τ', step (nI k, τ) = .inl (nI (k + 1), τ') ∧ qb_F qb_sm2 σ τ') ∨ (∃ x, step (nI k, τ) = .inr x ∧ Q x)) (he : ∀ τ, qb_F qb_sm2 σ τ → ∃ x, step (nI 4, τ) = .inr x ∧ Q x) : Q (qa_wh e step N s) :=
  qb_lp (fun k s => s.1 = nI k ∧ qb_F qb_sm2 σ s.2) Q 4 (fun k s hk hI => by
    obtain ⟨s1, s2⟩ := s
    obtain ⟨h1, h2⟩ := hI
    dsimp only at h1 h2
    subst h1
    rcases hs k s2 hk h2 with ⟨τ', e1, e2⟩ | ⟨x, e1, e2⟩
    · exact Or.inl ⟨_, e1, rfl, e2⟩
    · exact Or.inr ⟨x, e1, e2⟩) (fun s hI => by
    obtain ⟨s1, s2⟩ := s
    obtain ⟨h1, h2⟩ := hI
    dsimp only at h1 h2
    subst h1
    exact he s2 h2) N 0 s (by omega) (by omega) ⟨h0, h⟩
theorem qb_74F (hN : 5 ≤ N) {τ : qa_S} (h : qb_F qb_sm2 σ τ) : qb_F qb_sm2 σ (ma_74_73 N τ) := by
  unfold ma_74_73
  dsimp only [qa_in]
  refine qb_whP (I := fun (s : Int32 × qa_S) => qb_F qb_sm2 σ s.2) (Q := fun (s : Int32 × qa_S) => qb_F qb_sm2 σ s.2) (fun s h => h) (fun s h => ?_) N _ h
  unfold mc_74_73_p2
  by_cases c : s.1 < s.2 73 1
  · rw [if_pos c]
    unfold qa_in qa_cs
    dsimp only
    refine qb_4m (Q := fun (x : Int32 × qa_S) => qb_F qb_sm2 σ x.2) hN rfl h (fun k ρ hk hρ => ?_) (fun ρ hρ => ?_)
    · unfold mc_74_73_p19
      dsimp only
      rw [if_pos (show nI k < (4 : Int32) from qb_ltT (b := 4) hk (by omega)), qb_n (k := k) (by omega), qb_s]
      by_cases c2 : (0 : Int32) < s.2 79 s.1.toNatClampNeg
      · rw [if_pos c2]
        exact Or.inl ⟨_, rfl, qb_scu hρ (by unfold qb_sm2; omega)⟩
      · rw [if_neg c2]
        exact Or.inr ⟨_, rfl, hρ⟩
    · unfold mc_74_73_p19
      dsimp only
      rw [if_neg (show ¬ nI 4 < (4 : Int32) by decide)]
      exact ⟨_, rfl, hρ⟩
  · rw [if_neg c]; exact h
theorem qb_73F (hN : 5 ≤ N) {τ : qa_S} (h : qb_F qb_sm2 σ τ) : qb_F qb_sm2 σ (ma_73_73_4 N τ) := by
  unfold ma_73_73_4
  dsimp only [qa_in]
  refine qb_74F hN ?_
  have h1 : qb_F qb_sm2 σ (qa_u (qa_u τ 73 0 (τ 4 0)) 73 1 (qa_u τ 73 0 (τ 4 0) 1 (qa_u τ 73 0 (τ 4 0) 73 0).toNatClampNeg)) := qb_scu (qb_scu h (by unfold qb_sm2; omega)) (by unfold qb_sm2; omega)
  refine qb_whP (I := fun (s : Int32 × qa_S) => qb_F qb_sm2 σ s.2) (Q := fun (s : Int32 × qa_S) => qb_F qb_sm2 σ s.2) (fun s h => h) (fun s h => ?_) N _ h1
  unfold mc_73_73_4_p27
  by_cases c : s.1 < 0
  · rw [if_pos c]; exact h
  · rw [if_neg c]
    unfold qa_in qa_cs
    dsimp only
    refine qb_whP (I := fun (s : Int32 × qa_S) => qb_F qb_sm2 σ s.2) (Q := fun (s : Int32 × qa_S) => qb_F qb_sm2 σ s.2) (fun s h => h) (fun s h => ?_) N _ h
    unfold mc_73_73_4_p47
    refine qb_ifP (P := fun x => qa_cs x (fun (s : Int32 × qa_S) => qb_F qb_sm2 σ s.2) (fun (s : Int32 × qa_S) => qb_F qb_sm2 σ s.2)) ?_ h
    unfold qa_in qa_cs
    dsimp only
    refine qb_4m (Q := fun (x : Int32 × qa_S) => qb_F qb_sm2 σ x.2) hN rfl (qb_scu h (by unfold qb_sm2; omega)) (fun k ρ hk hρ => ?_) (fun ρ hρ => ?_)
    · unfold mc_73_73_4_p76
      dsimp only [qa_in]
      rw [if_pos (show nI k < (4 : Int32) from qb_ltT (b := 4) hk (by omega)), qb_n (k := k) (by omega), qb_s]
      exact Or.inl ⟨_, rfl, qb_scu hρ (by unfold qb_sm2; omega)⟩
    · unfold mc_73_73_4_p76
      dsimp only [qa_in]
      rw [if_neg (show ¬ nI 4 < (4 : Int32) by decide)]
      exact ⟨_, rfl, hρ⟩
theorem qb_72F (hN : 5 ≤ N) {τ : qa_S} (h : qb_F qb_sm2 σ τ) : qb_F qb_sm2 σ (ma_72_3 N τ) := by
  unfold ma_72_3
  dsimp only [qa_in]
  exact qb_ifP (P := fun z => qb_F qb_sm2 σ z) h (qb_scu (qb_73F hN h) (by unfold qb_sm2; omega))
/-- closure, for the frame -/
theorem qb_hw : ∀ a j, qb_sc a j → ∀ s v, qb_F qb_sm2 σ s → qb_F qb_sm2 σ (qa_u s a j v) := fun a j h s v hs => qb_scu hs (Or.inl h)
theorem qb_hm (hN : 5 ≤ N) : ∀ s, qb_F qb_sm2 σ s → qb_F qb_sm2 σ (ma_72_3 N s) := fun s hs => qb_72F hN hs
/-- a place is thought otherwise and put back -/
theorem qb_tmp {τ ρ : qa_S} {a j : Nat} {v : Int32} (h : qb_F qb_sm2 (qa_u τ a j v) ρ) (hτ : qb_F qb_sm2 σ τ) : qb_F qb_sm2 σ (qa_u ρ a j (τ a j)) := fun b i hb => by
  by_cases e : b = a ∧ i = j
  · have := hτ b i hb
    rw [e.1, e.2] at this ⊢
    rw [qb_uE]
    exact this
  · have e' : b ≠ a ∨ i ≠ j := by omega
    rw [qb_uN e', h b i hb, qb_uN e']
    exact hτ b i hb
/-! the class's calls that think otherwise -/
theorem qe_117 {a b : Int32} (hN : 5 ≤ N) : qb_F qb_sm2 σ (ma_117_3 N a b σ) := by
  unfold ma_117_3
  dsimp only [qa_in]
  exact qb_tmp (mf_47_4 qb_hw (qb_hm hN) qb_q95 qb_Fr) qb_Fr
theorem qe_115 (hN : 5 ≤ N) : qb_F qb_sm2 σ (ma_115_3 N σ).2 := by
  unfold ma_115_3
  dsimp only [qa_in]
  refine qb_whP (I := fun (s : Int32 × Int32 × Int32 × qa_S) => qb_F qb_sm2 σ s.2.2.2) (Q := fun (s : Int32 × Int32 × Int32 × qa_S) => qb_F qb_sm2 σ s.2.2.2) (fun s h => h) (fun s h => ?_) N _ (mf_87_3 qb_hw (qb_hm hN) qb_Fr)
  unfold mc_115_3_p14
  refine qb_ifP (P := fun x => qa_cs x (fun (s : Int32 × Int32 × Int32 × qa_S) => qb_F qb_sm2 σ s.2.2.2) (fun (s : Int32 × Int32 × Int32 × qa_S) => qb_F qb_sm2 σ s.2.2.2)) ?_ h
  exact qb_tmp (mf_87_3 qb_hw (qb_hm hN) qb_Fr) h
theorem qe_116 (hN : 5 ≤ N) : qb_F qb_sm2 σ (ma_116_3 N σ).2 := by
  unfold ma_116_3
  dsimp only [qa_in]
  refine qb_whP (I := fun (s : Int32 × Int32 × Int32 × qa_S) => qb_F qb_sm2 σ s.2.2.2) (Q := fun (s : Int32 × Int32 × Int32 × qa_S) => qb_F qb_sm2 σ s.2.2.2) (fun s h => h) (fun s h => ?_) N _ (mf_87_3 qb_hw (qb_hm hN) qb_Fr)
  unfold mc_116_3_p14
  refine qb_ifP (P := fun x => qa_cs x (fun (s : Int32 × Int32 × Int32 × qa_S) => qb_F qb_sm2 σ s.2.2.2) (fun (s : Int32 × Int32 × Int32 × qa_S) => qb_F qb_sm2 σ s.2.2.2)) ?_ h
  exact qb_ifP (P := fun z => qb_F qb_sm2 σ z) (qb_72F hN (mf_66_3 qb_hw (qb_hm hN) (qb_Ft h (qe_117 hN) (fun _ _ h => h) (fun _ _ h => h)))) h
theorem qe_123 {a : Int32} (hN : 5 ≤ N) : qb_F qb_sm2 σ (ma_123_3 N a σ).2 := by
  unfold ma_123_3
  refine qb_ifP (P := fun (z : Int32 × qa_S) => qb_F qb_sm2 σ z.2) (mf_9_3 qb_hw (qb_hm hN) qb_Fr) ?_
  dsimp only [qa_in]
  refine qb_whP (I := fun (s : Int32 × Int32 × Int32 × qa_S) => qb_F qb_sm2 σ s.2.2.2) (Q := fun (s : Int32 × Int32 × Int32 × qa_S) => qb_F qb_sm2 σ s.2.2.2) (fun s h => h) (fun s h => ?_) N _ (mf_46_3 qb_hw (qb_hm hN) qb_Fr)
  unfold mc_123_3_p26
  refine qb_ifP (P := fun x => qa_cs x (fun (s : Int32 × Int32 × Int32 × qa_S) => qb_F qb_sm2 σ s.2.2.2) (fun (s : Int32 × Int32 × Int32 × qa_S) => qb_F qb_sm2 σ s.2.2.2)) ?_ h
  unfold qa_in qa_cs
  dsimp only
  refine qb_whP (I := fun (s : Int32 × Int32 × Int32 × qa_S) => qb_F qb_sm2 σ s.2.2.2) (Q := fun (s : Int32 × Int32 × Int32 × qa_S) => qb_F qb_sm2 σ s.2.2.2) (fun s h => h) (fun s h => ?_) N _ h
  unfold mc_123_3_p56
  refine qb_ifP (P := fun x => qa_cs x (fun (s : Int32 × Int32 × Int32 × qa_S) => qb_F qb_sm2 σ s.2.2.2) (fun (s : Int32 × Int32 × Int32 × qa_S) => qb_F qb_sm2 σ s.2.2.2)) h ?_
  exact qb_ifP (P := fun z => qb_F qb_sm2 σ z) h (qb_ifP (P := fun z => qb_F qb_sm2 σ z) h (qb_Ft h (qe_117 hN) (fun _ _ h => h) (fun _ _ h => h)))
theorem qe_128 {a : Int32} (hN : 5 ≤ N) : qb_F qb_sm2 σ (ma_128_3 N a σ).2 := by
  unfold ma_128_3
  refine qb_ifP (P := fun (z : Int32 × qa_S) => qb_F qb_sm2 σ z.2) (mf_9_3 qb_hw (qb_hm hN) qb_Fr) ?_
  refine qb_ifP (P := fun (z : Int32 × qa_S) => qb_F qb_sm2 σ z.2) (mf_9_3 qb_hw (qb_hm hN) qb_Fr) ?_
  dsimp only [qa_in]
  have h1 : qb_F qb_sm2 σ (ma_46_3 N σ) := mf_46_3 qb_hw (qb_hm hN) qb_Fr
  have h7 : ma_46_3 N σ 7 a.toNatClampNeg = σ 7 a.toNatClampNeg := h1 _ _ (by unfold qb_sm2 qb_sc; omega)
  rw [← h7]
  refine qb_tmp (v := 0) ?_ h1
  generalize qa_u (ma_46_3 N σ) 7 a.toNatClampNeg 0 = μ
  refine qb_whP (I := fun (s : Int32 × Int32 × qa_S) => qb_F qb_sm2 μ s.2.2) (Q := fun (s : Int32 × Int32 × qa_S) => qb_F qb_sm2 μ s.2.2) (fun s h => h) (fun s h => ?_) N _ qb_Fr
  unfold mc_128_3_p57
  refine qb_ifP (P := fun x => qa_cs x (fun (s : Int32 × Int32 × qa_S) => qb_F qb_sm2 μ s.2.2) (fun (s : Int32 × Int32 × qa_S) => qb_F qb_sm2 μ s.2.2)) ?_ h
  exact qb_ifP (P := fun z => qb_F qb_sm2 μ z) h (qb_Ft h (qe_117 hN) (fun _ _ h => h) (fun _ _ h => h))
/-! the reference's -/
theorem qe_219 (hN : 5 ≤ N) : qb_F qb_sm2 σ (ma_219_99 N σ).2 := by
  unfold ma_219_99
  dsimp only [qa_in]
  refine qb_whP (I := fun (s : Int32 × Int32 × qa_S) => qb_F qb_sm2 σ s.2.2) (Q := fun (s : Int32 × Int32 × qa_S) => qb_F qb_sm2 σ s.2.2) (fun s h => h) (fun s h => ?_) N _ (mf_180_99 qb_hw (qb_hm hN) (qb_scu qb_Fr (Or.inl qb_q99)))
  unfold mc_219_99_p13
  refine qb_ifP (P := fun x => qa_cs x (fun (s : Int32 × Int32 × qa_S) => qb_F qb_sm2 σ s.2.2) (fun (s : Int32 × Int32 × qa_S) => qb_F qb_sm2 σ s.2.2)) ?_ h
  exact qb_ifP (P := fun z => qb_F qb_sm2 σ z) (qb_tmp (mf_218_99 qb_hw (qb_hm hN) (mf_181_99 qb_hw (qb_hm hN) qb_Fr)) h) h
theorem qe_229 (hN : 5 ≤ N) : qb_F qb_sm2 σ (ma_229_99 N σ).2 := by
  unfold ma_229_99
  dsimp only [qa_in]
  refine qb_whP (I := fun (s : Int32 × Int32 × Int32 × qa_S) => qb_F qb_sm2 σ s.2.2.2) (Q := fun (s : Int32 × Int32 × Int32 × qa_S) => qb_F qb_sm2 σ s.2.2.2) (fun s h => h) (fun s h => ?_) N _ (mf_193_99 qb_hw (qb_hm hN) (qb_scu qb_Fr (Or.inl qb_q99)))
  unfold mc_229_99_p15
  refine qb_ifP (P := fun x => qa_cs x (fun (s : Int32 × Int32 × Int32 × qa_S) => qb_F qb_sm2 σ s.2.2.2) (fun (s : Int32 × Int32 × Int32 × qa_S) => qb_F qb_sm2 σ s.2.2.2)) ?_ h
  exact qb_tmp (mf_193_99 qb_hw (qb_hm hN) qb_Fr) h
theorem qe_230 (hN : 5 ≤ N) : qb_F qb_sm2 σ (ma_230_99 N σ).2 := by
  unfold ma_230_99
  dsimp only [qa_in]
  refine qb_whP (I := fun (s : Int32 × Int32 × Int32 × qa_S) => qb_F qb_sm2 σ s.2.2.2) (Q := fun (s : Int32 × Int32 × Int32 × qa_S) => qb_F qb_sm2 σ s.2.2.2) (fun s h => h) (fun s h => ?_) N _ (mf_193_99 qb_hw (qb_hm hN) (qb_scu qb_Fr (Or.inl qb_q99)))
  unfold mc_230_99_p15
  refine qb_ifP (P := fun x => qa_cs x (fun (s : Int32 × Int32 × Int32 × qa_S) => qb_F qb_sm2 σ s.2.2.2) (fun (s : Int32 × Int32 × Int32 × qa_S) => qb_F qb_sm2 σ s.2.2.2)) ?_ h
  have h2 := mf_193_99 (P := fun z => qb_F qb_sm2 (qa_u s.2.2.2 103 s.1.toNatClampNeg (s.2.2.2 103 s.1.toNatClampNeg + 1)) z) (N := N) qb_hw (qb_hm hN) qb_Fr
  have e : (ma_193_99 N (qa_u s.2.2.2 103 s.1.toNatClampNeg (s.2.2.2 103 s.1.toNatClampNeg + 1))).2 103 s.1.toNatClampNeg - 1 = s.2.2.2 103 s.1.toNatClampNeg := by
    rw [h2 103 _ (by unfold qb_sm2 qb_sc; omega), qb_uE]
    exact Int32.add_sub_cancel _ _
  refine qb_ifP (P := fun z => qb_F qb_sm2 σ z) ?_ h
  rw [e]
  exact qb_tmp h2 h
theorem qe_240 {a b c : Int32} (hN : 5 ≤ N) : qb_F qb_sm2 σ (ma_240_99 N a b c σ).2 := by
  have h1 : qb_F qb_sm2 σ (qa_u σ 99 9 0) := qb_scu qb_Fr (Or.inl qb_q99)
  unfold ma_240_99
  refine qb_inP (P := fun (z : Int32 × qa_S) => qb_F qb_sm2 σ z.2) (fun m em => ?_)
  rw [← em] at h1
  have hr : qb_F qb_sm2 σ (ma_152_99 (-1) m).2 := mf_152_99 qb_hw (qb_hm hN) h1
  refine qb_ifP (P := fun (z : Int32 × qa_S) => qb_F qb_sm2 σ z.2) hr ?_
  refine qb_ifP (P := fun (z : Int32 × qa_S) => qb_F qb_sm2 σ z.2) hr ?_
  refine qb_ifP (P := fun (z : Int32 × qa_S) => qb_F qb_sm2 σ z.2) hr ?_
  refine qb_ifP (P := fun (z : Int32 × qa_S) => qb_F qb_sm2 σ z.2) hr ?_
  dsimp only [qa_in]
  have h2 : qb_F qb_sm2 σ (ma_181_99 N m) := mf_181_99 qb_hw (qb_hm hN) h1
  generalize ma_181_99 N m = μ at h2
  have h3 : qb_F (fun x j => x = 105 ∧ j = a.toNatClampNeg) μ (qa_wh (fun s => s) (mc_240_99_p59 N a b c (μ 105 a.toNatClampNeg)) N ((0 : Int32), (-9 : Int32), μ)).2.2 := by
    refine qb_whP (I := fun (s : Int32 × Int32 × qa_S) => qb_F (fun x j => x = 105 ∧ j = a.toNatClampNeg) μ s.2.2) (Q := fun (s : Int32 × Int32 × qa_S) => qb_F (fun x j => x = 105 ∧ j = a.toNatClampNeg) μ s.2.2) (fun s h => h) (fun s h => ?_) N _ qb_Fr
    unfold mc_240_99_p59
    refine qb_ifP (P := fun x => qa_cs x (fun (s : Int32 × Int32 × qa_S) => qb_F (fun x j => x = 105 ∧ j = a.toNatClampNeg) μ s.2.2) (fun (s : Int32 × Int32 × qa_S) => qb_F (fun x j => x = 105 ∧ j = a.toNatClampNeg) μ s.2.2)) h ?_
    exact qb_Ft h (qb_Fu ⟨rfl, rfl⟩) (fun _ _ h => h) (fun _ _ h => h)
  intro x j hx
  by_cases e : x = 105 ∧ j = a.toNatClampNeg
  · have := h2 x j hx
    rw [e.1, e.2] at this ⊢
    rw [qb_uE]
    exact this
  · rw [qb_uN (by omega), h3 x j e]
    exact h2 x j hx
end Q66
/-- the places are as they were, though written -/
theorem qb_JFm {w : Nat → Nat → Prop} {σ τ : qa_S} (h : qb_F w σ τ) (hm : ∀ i, i < 69 → qb_gm τ i = qb_gm σ i) (hw : ∀ a j, (qb_rA a j ∧ ¬ qb_rM a j) ∨ qb_rB a j ∨ qb_rC a j ∨ qb_rE a j ∨ qb_rW a j ∨ qb_rY a j → ¬ w a j) (hI : qb_I False False σ) : qb_I False False τ := by
  obtain ⟨iA, iB, iC, iE, iW, iX, iY, iQ⟩ := hI
  refine ⟨⟨fun i hi => ?_, qb_Dx hm iA.2⟩, qb_BF h (fun a j r => hw a j (Or.inr (Or.inl r))) iB, qb_CF h (fun a j r => hw a j (Or.inr (Or.inr (Or.inl r)))) iC, qb_EF h (fun a j r => hw a j (Or.inr (Or.inr (Or.inr (Or.inl r))))) hm iE, qb_WF h (fun a j r => hw a j (Or.inr (Or.inr (Or.inr (Or.inr (Or.inl r)))))) iW, fun h => h.elim, qb_YF h (fun a j r => hw a j (Or.inr (Or.inr (Or.inr (Or.inr (Or.inr r)))))) iA hm iY, fun h => h.elim⟩
  rw [hm i hi, ← iA.1 i hi]
  exact qb_cF h (fun b j hb => hw b j (Or.inl ⟨by unfold qb_rA; omega, by unfold qb_rM; omega⟩)) hi
theorem qe_250 {σ : qa_S} {N : Nat} {a b c : Int32} (hN : 5000 ≤ N) (hI : qb_I False False σ) : qb_I False False (ma_250_99 N a b c σ).2 := by
  have h1 : qb_F qb_sm2 σ (qa_u σ 99 9 0) := qb_scu qb_Fr (Or.inl qb_q99)
  unfold ma_250_99
  refine qb_inP (P := fun (z : Int32 × qa_S) => qb_I False False z.2) (fun m em => ?_)
  rw [← em] at h1
  refine qb_ifP (P := fun (z : Int32 × qa_S) => qb_I False False z.2) (qb_scI (mf_152_99 qb_hw (qb_hm (N := N) (by omega)) h1) hI) ?_
  dsimp only [qa_in]
  obtain ⟨c1, c2⟩ := qb_159_117T (σ := m) (N := N) (by omega)
  obtain ⟨μ, eμ⟩ : ∃ μ, μ = ma_159_99_117 N 1 m := ⟨_, rfl⟩
  rw [← eμ] at c1 c2 ⊢
  have h3 : qb_F (fun x j => qb_sm2 x j ∨ x = 103) μ (qa_wh (fun s => s) (mc_250_99_p52 N a c) N ((0 : Int32), b, (0 : Int32), (0 : Int32), μ)).2.2.2.2 := by
    have hw3 : ∀ x j, qb_sc x j → ∀ s v, qb_F (fun x j => qb_sm2 x j ∨ x = 103) μ s → qb_F (fun x j => qb_sm2 x j ∨ x = 103) μ (qa_u s x j v) := fun x j hx s v hs => qb_Ft hs (qb_Fu (w := fun x j => qb_sm2 x j ∨ x = 103) (Or.inl (Or.inl hx))) (fun _ _ h => h) (fun _ _ h => h)
    have hm3 : ∀ s, qb_F (fun x j => qb_sm2 x j ∨ x = 103) μ s → qb_F (fun x j => qb_sm2 x j ∨ x = 103) μ (ma_72_3 N s) := fun s hs => qb_Ft hs (qb_72F (N := N) (by omega) (σ := s) qb_Fr) (fun _ _ h => h) (fun _ _ h => Or.inl h)
    refine qb_whP (I := fun (s : Int32 × Int32 × Int32 × Int32 × qa_S) => qb_F (fun x j => qb_sm2 x j ∨ x = 103) μ s.2.2.2.2) (Q := fun (s : Int32 × Int32 × Int32 × Int32 × qa_S) => qb_F (fun x j => qb_sm2 x j ∨ x = 103) μ s.2.2.2.2) (fun s h => h) (fun s h => ?_) N _ qb_Fr
    unfold mc_250_99_p52
    refine qb_ifP (P := fun x => qa_cs x (fun (s : Int32 × Int32 × Int32 × Int32 × qa_S) => qb_F (fun x j => qb_sm2 x j ∨ x = 103) μ s.2.2.2.2) (fun (s : Int32 × Int32 × Int32 × Int32 × qa_S) => qb_F (fun x j => qb_sm2 x j ∨ x = 103) μ s.2.2.2.2)) ?_ h
    have h4 : qb_F (fun x j => qb_sm2 x j ∨ x = 103) μ (qa_wh (fun s => s) (mc_250_99_p64 N a c s.2.2.1 s.2.2.2.1 s.1) N ((0 : Int32), s.2.1, (0 : Int32), s.2.2.2.2)).2.2.2 := by
      refine qb_whP (I := fun (s : Int32 × Int32 × Int32 × qa_S) => qb_F (fun x j => qb_sm2 x j ∨ x = 103) μ s.2.2.2) (Q := fun (s : Int32 × Int32 × Int32 × qa_S) => qb_F (fun x j => qb_sm2 x j ∨ x = 103) μ s.2.2.2) (fun s h => h) (fun s h => ?_) N _ h
      unfold mc_250_99_p64
      refine qb_ifP (P := fun x => qa_cs x (fun (s : Int32 × Int32 × Int32 × qa_S) => qb_F (fun x j => qb_sm2 x j ∨ x = 103) μ s.2.2.2) (fun (s : Int32 × Int32 × Int32 × qa_S) => qb_F (fun x j => qb_sm2 x j ∨ x = 103) μ s.2.2.2)) ?_ h
      exact qb_Ft h (qb_Fu (w := fun x j => qb_sm2 x j ∨ x = 103) (Or.inr rfl)) (fun _ _ h => h) (fun _ _ h => h)
    exact qb_ifP (P := fun z => qb_F (fun x j => qb_sm2 x j ∨ x = 103) μ z) h4 (mf_193_99 hw3 hm3 h4)
  generalize (qa_wh (fun s => s) (mc_250_99_p52 N a c) N ((0 : Int32), b, (0 : Int32), (0 : Int32), μ)).2.2.2.2 = ρ at h3
  obtain ⟨u1, u2⟩ := qb_159_117U (σ := ρ) (N := N) (by omega)
  refine qb_JFm (w := fun x j => qb_sm2 x j ∨ x = 117 ∨ (100 ≤ x ∧ x ≤ 106) ∨ (x = 99 ∧ (j = 0 ∨ j = 5 ∨ (27 ≤ j ∧ j ≤ 29)))) (fun x j hx => ?_) (fun i hi => ?_) (fun x j r => by
    unfold qb_sm2 qb_sc
    unfold qb_rA qb_rM qb_rB qb_rC qb_rE qb_rW qb_rY at r
    omega) hI
  · obtain ⟨hs, hx2⟩ := not_or.mp hx
    rw [u2 x j (by omega), h3 x j (fun c => c.elim hs (fun e => by omega)), c2 x j (by omega)]
    exact h1 x j hs
  · rw [u1 i hi, h3 117 i (by unfold qb_sm2 qb_sc; omega), c1 i hi]
    exact qb_mF h1 (fun b j hb => by unfold qb_sm2 qb_sc; omega) hi
/-- the class brews otherwise and back -/
theorem qe_101 {σ : qa_S} {N c : Nat} (hN : 5000 ≤ N) (hc : c < 7) (hI : qb_I False False σ) : qb_I False False (ma_101_3 N (nI c) σ) := by
  obtain ⟨iA, iB, iC, iE, iW, iX, iY, iQ⟩ := hI
  unfold ma_101_3
  dsimp only [qa_in]
  rw [qb_n (k := c) (by omega)]
  obtain ⟨n, n7, n1, n2, n3⟩ := qb_An iA
  obtain ⟨m1, e1⟩ : ∃ m, m = qa_u σ 5 c 4 := ⟨_, rfl⟩
  rw [← e1]
  have F2 : qb_F (fun a _ => 17 ≤ a ∧ a < 24) m1 (ma_29_4 N m1) := (qb_29 (σ := m1) (N := N) (n := n) (K := fun c => m1 5 c) (F := fun c => m1 6 c) (R := fun c m => m1 (9 + c) m) (by omega) n7 (by rw [e1, qb_uA (by omega)]; exact n1) (fun _ _ => rfl) (fun _ _ => rfl) (fun _ _ _ _ => rfl)).2
  obtain ⟨m2, e2⟩ : ∃ m, m = ma_29_4 N m1 := ⟨_, rfl⟩
  rw [← e2] at F2 ⊢
  have F3 : qb_F qb_sm2 m2 (ma_47_4 N 7 (-1) 0 95 m2) := mf_47_4 qb_hw (qb_hm (by omega)) qb_q95 qb_Fr
  obtain ⟨m3, e3⟩ : ∃ m, m = ma_47_4 N 7 (-1) 0 95 m2 := ⟨_, rfl⟩
  rw [← e3] at F3 ⊢
  obtain ⟨m4, e4⟩ : ∃ m, m = qa_u m3 5 c (σ 5 c) := ⟨_, rfl⟩
  rw [← e4]
  have F4 : qb_F (fun a j => qb_sm2 a j ∨ (17 ≤ a ∧ a < 24)) σ m4 := fun a j hx => by
    obtain ⟨hs, hx2⟩ := not_or.mp hx
    rw [e4]
    by_cases e : a = 5 ∧ j = c
    · rw [e.1, e.2, qb_uE]
    · rw [qb_uN (by omega), F3 a j hs, F2 a j hx2, e1, qb_uN (by omega)]
  have V4 : ∀ i, i < 69 → qb_gc 4 m4 i = qb_gm σ i := fun i hi => (qb_cF F4 (fun b j hb => by unfold qb_sm2 qb_sc; omega) hi).trans (iA.1 i hi)
  have B := qb_29 (σ := m4) (N := N) (n := n) (K := fun c => qb_gm σ (2 + 3 * c)) (F := fun c => qb_gm σ (3 + 3 * c)) (R := fun c m => qb_gm σ (23 + 4 * c + m)) (by omega) n7 ((F4 4 0 (by unfold qb_sm2 qb_sc; omega)).trans n1) (fun c hc => by
    have := V4 (2 + 3 * c) (by omega)
    unfold qb_gc at this
    rw [qb_cK (by omega)] at this
    exact this) (fun c hc => by
    have := V4 (3 + 3 * c) (by omega)
    unfold qb_gc at this
    rw [qb_cG (by omega)] at this
    exact this) (fun c m hc hm => by
    have := V4 (23 + 4 * c + m) (by omega)
    unfold qb_gc at this
    rw [qb_cM (by omega) hm] at this
    exact this)
  obtain ⟨B1, B2⟩ := B
  have F5 : qb_F (fun a j => qb_sm2 a j ∨ (17 ≤ a ∧ a < 24)) σ (ma_29_4 N m4) := qb_Ft F4 B2 (fun _ _ h => h) (fun _ _ h => Or.inr h)
  have hm : ∀ i, i < 69 → qb_gm (ma_29_4 N m4) i = qb_gm σ i := fun i hi => qb_mF F5 (fun b j hb => by unfold qb_sm2 qb_sc; omega) hi
  refine ⟨qb_AF F5 (fun a j r => by unfold qb_rA at r; unfold qb_sm2 qb_sc; omega) iA, qb_BF F5 (fun a j r => by unfold qb_rB at r; unfold qb_sm2 qb_sc; omega) iB, qb_CF F5 (fun a j r => by unfold qb_rC at r; unfold qb_sm2 qb_sc; omega) iC, qb_EF F5 (fun a j r => by unfold qb_rE at r; unfold qb_sm2 qb_sc; omega) hm iE, qb_WF F5 (fun a j r => by unfold qb_rW at r; unfold qb_sm2 qb_sc; omega) iW, fun h => h.elim, fun c m hc h4 => ?_, fun h => h.elim⟩
  rw [hm 0 (by omega), n3] at hc
  rw [B1 c m (by omega) h4]
  exact qb_TVx (fun i hi => (hm i hi).symm) (by omega) h4
theorem qe_100 {σ : qa_S} {N : Nat} (hN : 5000 ≤ N) (hI : qb_I False False σ) : qb_I False False (ma_100_3 N σ).2 := by
  unfold ma_100_3
  dsimp only [qa_in]
  obtain ⟨n, n7, n1, -, -⟩ := qb_An hI.1
  have h0 : qb_F qb_sm2 σ (ma_46_3 N σ) := mf_46_3 qb_hw (qb_hm (by omega)) qb_Fr
  refine qb_l0 (fun (k : Nat) (s : Int32 × Int32 × qa_S) => s.1 = nI k ∧ qb_I False False s.2.2 ∧ s.2.2 4 0 = nI n) (fun (s : Int32 × Int32 × qa_S) => qb_I False False s.2.2) n (by omega) ⟨rfl, qb_scI h0 hI, (h0 4 0 (by unfold qb_sm2 qb_sc; omega)).trans n1⟩ ?_ ?_
  · rintro k ⟨s1, s2, s3⟩ hk ⟨h1, h2, h3⟩
    dsimp only at h1 h2 h3
    subst h1
    unfold mc_100_3_p8
    dsimp only [qa_in]
    rw [if_pos (by rw [h3]; exact qb_ltT hk (by omega)), qb_s]
    have g1 := qe_101 (c := k) hN (by omega) h2
    obtain ⟨n', n7', n1', -, n3'⟩ := qb_An g1.1
    have g2 : ma_101_3 N (nI k) s3 4 0 = nI n := by
      have e1 := g1.1.1 0 (by omega)
      have e2 := h2.1.1 0 (by omega)
      have F : ma_101_3 N (nI k) s3 4 0 = s3 4 0 := by
        unfold ma_101_3
        dsimp only [qa_in]
        rw [qb_n (k := k) (by omega)]
        have a1 : qa_u s3 5 k 4 4 0 = nI n := by rw [qb_uA (by omega)]; exact h3
        have F2 := (qb_29 (σ := qa_u s3 5 k 4) (N := N) (n := n) (K := fun c => qa_u s3 5 k 4 5 c) (F := fun c => qa_u s3 5 k 4 6 c) (R := fun c m => qa_u s3 5 k 4 (9 + c) m) (by omega) n7 a1 (fun _ _ => rfl) (fun _ _ => rfl) (fun _ _ _ _ => rfl)).2
        have F3 : qb_F qb_sm2 (ma_29_4 N (qa_u s3 5 k 4)) (ma_47_4 N 7 (-1) 0 95 (ma_29_4 N (qa_u s3 5 k 4))) := mf_47_4 qb_hw (qb_hm (by omega)) qb_q95 qb_Fr
        have a4 : qa_u (ma_47_4 N 7 (-1) 0 95 (ma_29_4 N (qa_u s3 5 k 4))) 5 k (s3 5 k) 4 0 = nI n := by rw [qb_uA (by omega), F3 4 0 (by unfold qb_sm2 qb_sc; omega), F2 4 0 (by omega)]; exact a1
        generalize qa_u (ma_47_4 N 7 (-1) 0 95 (ma_29_4 N (qa_u s3 5 k 4))) 5 k (s3 5 k) = m4 at a4
        rw [(qb_29 (σ := m4) (N := N) (n := n) (K := fun c => m4 5 c) (F := fun c => m4 6 c) (R := fun c m => m4 (9 + c) m) (by omega) n7 a4 (fun _ _ => rfl) (fun _ _ => rfl) (fun _ _ _ _ => rfl)).2 4 0 (by omega), a4]
        exact h3.symm
      rw [F]; exact h3
    exact ⟨_, rfl, rfl, qb_ifP (P := fun z => qb_I False False z) h2 g1, qb_ifP (P := fun (z : qa_S) => z 4 0 = nI n) h3 g2⟩
  · rintro ⟨s1, s2, s3⟩ ⟨h1, h2, h3⟩
    dsimp only at h1 h2 h3
    subst h1
    unfold mc_100_3_p8
    dsimp only [qa_in]
    rw [if_neg (by rw [h3]; exact qb_ltF (by omega) (by omega))]
    exact ⟨_, rfl, h2⟩
