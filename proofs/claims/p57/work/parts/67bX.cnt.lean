/-! the refusals counted stay alike; count -/
def qz_w (a j : Nat) : Prop := (a = 3 ∧ j = 18) ∨ a = 73 ∨ (75 ≤ a ∧ a ≤ 79)
section QZ
variable {n t : Nat} {s : Nat → Nat} {T : Nat → Nat → Nat} {o b : Nat → Nat} {σ τ : qa_S} {N : Nat}
theorem qz_mu {a j : Nat} {v : Int32} (ha : a ≠ 93 ∧ a ≠ 107) (h : qb_iX σ) : qb_iX (qa_u σ a j v) := qb_XF (w := fun b _ => b = a) (fun b i h => qb_uA h) (fun b i r => by unfold qb_rX at r; omega) h
theorem qz_hw : ∀ a j, qb_sd a j → ∀ s v, qb_iX s → qb_iX (qa_u s a j v) := fun a j h s v hs => qz_mu (by unfold qb_sd at h; omega) hs
theorem qz_scu {a j : Nat} {v : Int32} (h : qb_F qz_w σ τ) (hs : qz_w a j) : qb_F qz_w σ (qa_u τ a j v) := qb_Ft h (qb_Fu hs) (fun _ _ h => h) (fun _ _ h => h)
/-- four marks: a loop over them that writes at 75 + mark -/
theorem qz_4m {B : Type} {e : Int32 × qa_S → B} {step : Int32 × qa_S → (Int32 × qa_S) ⊕ B} {Q : B → Prop} {s : Int32 × qa_S} (hN : 5 ≤ N) (h0 : s.1 = 0) (h : qb_F qz_w σ s.2) (hs : ∀ k τ, k < 4 → qb_F qz_w σ τ → (∃ τ', step (nI k, τ) = .inl (nI (k + 1), τ') ∧ qb_F qz_w σ τ') ∨ (∃ x, step (nI k, τ) = .inr x ∧ Q x)) (he : ∀ τ, qb_F qz_w σ τ → ∃ x, step (nI 4, τ) = .inr x ∧ Q x) : Q (qa_wh e step N s) :=
  qb_lp (fun k s => s.1 = nI k ∧ qb_F qz_w σ s.2) Q 4 (fun k s hk hI => by
    obtain ⟨s1, s2⟩ := s
    obtain ⟨h1, h2⟩ := hI
    dsimp only at h1 h2
    subst h1
    rcases hs k s2 hk h2 with ⟨τ', e1, e2⟩ | ⟨x, e1, e2⟩
    · exact Or.inl ⟨_, e1, rfl, e2⟩
    · exact Or.inr ⟨x, e1, e2⟩) (fun s hI => by
    obtain ⟨s1, s2⟩ := s
    obtain ⟨h1, h2⟩ := hI
    dsimp only at h1 h2
    subst h1
    exact he s2 h2) N 0 s (by omega) (by omega) ⟨h0, h⟩
theorem qz_74F (hN : 5 ≤ N) {τ : qa_S} (h : qb_F qz_w σ τ) : qb_F qz_w σ (ma_74_73 N τ) := by
  unfold ma_74_73
  dsimp only [qa_in]
  refine qb_whP (I := fun (s : Int32 × qa_S) => qb_F qz_w σ s.2) (Q := fun (s : Int32 × qa_S) => qb_F qz_w σ s.2) (fun s h => h) (fun s h => ?_) N _ h
  unfold mc_74_73_p2
  by_cases c : s.1 < s.2 73 1
  · rw [if_pos c]
    unfold qa_in qa_cs
    dsimp only
    refine qz_4m (Q := fun (x : Int32 × qa_S) => qb_F qz_w σ x.2) hN rfl h (fun k ρ hk hρ => ?_) (fun ρ hρ => ?_)
    · unfold mc_74_73_p19
      dsimp only
      rw [if_pos (show nI k < (4 : Int32) from qb_ltT (b := 4) hk (by omega)), qb_n (k := k) (by omega), qb_s]
      by_cases c2 : (0 : Int32) < s.2 79 s.1.toNatClampNeg
      · rw [if_pos c2]
        exact Or.inl ⟨_, rfl, qz_scu hρ (by unfold qz_w; omega)⟩
      · rw [if_neg c2]
        exact Or.inr ⟨_, rfl, hρ⟩
    · unfold mc_74_73_p19
      dsimp only
      rw [if_neg (show ¬ nI 4 < (4 : Int32) by decide)]
      exact ⟨_, rfl, hρ⟩
  · rw [if_neg c]; exact h
theorem qz_73F (hN : 5 ≤ N) {τ : qa_S} (h : qb_F qz_w σ τ) : qb_F qz_w σ (ma_73_73_4 N τ) := by
  unfold ma_73_73_4
  dsimp only [qa_in]
  refine qz_74F hN ?_
  have h1 : qb_F qz_w σ (qa_u (qa_u τ 73 0 (τ 4 0)) 73 1 (qa_u τ 73 0 (τ 4 0) 1 (qa_u τ 73 0 (τ 4 0) 73 0).toNatClampNeg)) := qz_scu (qz_scu h (by unfold qz_w; omega)) (by unfold qz_w; omega)
  refine qb_whP (I := fun (s : Int32 × qa_S) => qb_F qz_w σ s.2) (Q := fun (s : Int32 × qa_S) => qb_F qz_w σ s.2) (fun s h => h) (fun s h => ?_) N _ h1
  unfold mc_73_73_4_p27
  by_cases c : s.1 < 0
  · rw [if_pos c]; exact h
  · rw [if_neg c]
    unfold qa_in qa_cs
    dsimp only
    refine qb_whP (I := fun (s : Int32 × qa_S) => qb_F qz_w σ s.2) (Q := fun (s : Int32 × qa_S) => qb_F qz_w σ s.2) (fun s h => h) (fun s h => ?_) N _ h
    unfold mc_73_73_4_p47
    refine qb_ifP (P := fun x => qa_cs x (fun (s : Int32 × qa_S) => qb_F qz_w σ s.2) (fun (s : Int32 × qa_S) => qb_F qz_w σ s.2)) ?_ h
    unfold qa_in qa_cs
    dsimp only
    refine qz_4m (Q := fun (x : Int32 × qa_S) => qb_F qz_w σ x.2) hN rfl (qz_scu h (by unfold qz_w; omega)) (fun k ρ hk hρ => ?_) (fun ρ hρ => ?_)
    · unfold mc_73_73_4_p76
      dsimp only [qa_in]
      rw [if_pos (show nI k < (4 : Int32) from qb_ltT (b := 4) hk (by omega)), qb_n (k := k) (by omega), qb_s]
      exact Or.inl ⟨_, rfl, qz_scu hρ (by unfold qz_w; omega)⟩
    · unfold mc_73_73_4_p76
      dsimp only [qa_in]
      rw [if_neg (show ¬ nI 4 < (4 : Int32) by decide)]
      exact ⟨_, rfl, hρ⟩
theorem qz_72F (hN : 5 ≤ N) {τ : qa_S} (h : qb_F qz_w σ τ) : qb_F qz_w σ (ma_72_3 N τ) := by
  unfold ma_72_3
  dsimp only [qa_in]
  exact qb_ifP (P := fun z => qb_F qz_w σ z) h (qz_scu (qz_73F hN h) (by unfold qz_w; omega))
theorem qz_hm (hN : 5000 ≤ N) : ∀ s, qb_iX s → qb_iX (ma_72_3 N s) := fun s hs => qb_XF (qz_72F (by omega) qb_Fr) (fun a j r => by unfold qb_rX at r; unfold qz_w; omega) hs
theorem qz_dw {xx yy : Prop} (J : qb_I xx yy τ) : qb_I False False τ := ⟨J.1, J.2.1, J.2.2.1, J.2.2.2.1, J.2.2.2.2.1, fun h => h.elim, J.2.2.2.2.2.2.1, fun h => h.elim⟩
theorem qz_up (J : qb_I False False τ) (hX : qb_iX τ) : qb_I True False τ := ⟨J.1, J.2.1, J.2.2.1, J.2.2.2.1, J.2.2.2.2.1, fun _ => hX, J.2.2.2.2.2.2.1, fun h => h.elim⟩
theorem qz_rF {c : Nat} : qb_F qb_sm2 σ (qb_rf c σ) := qb_scu qb_Fr (Or.inl (qb_q93 c))
theorem qz_R {A B : Type} {g : qa_S → B × qa_S} {r : A × qa_S} {yy : Prop} {c : Nat} (hI : qb_I True yy σ) (h1 : r.2 = qb_rf c σ) (h2 : (g (qb_rf c σ)).2 = qb_rg c (qb_rf c σ)) : qb_iX (g r.2).2 := by
  rw [h1, h2]
  exact (qb_rfI hI).2.2.2.2.2.1 trivial
theorem qz_201 {z x : Int32} (hz : z < 0) : ma_201 z x 1 = z := by
  unfold ma_201
  rw [if_neg (fun c => by rw [c] at hz; exact absurd hz (by decide))]
theorem qz_56 (hN : 5000 ≤ N) (hI : qb_I True False σ) (x1 : Int32) : qb_iX (ma_189_99 N x1 (ma_56_3 N x1 σ).2).2 := by
  obtain ⟨n, t, s, T, o, b, B, C, P⟩ := qv_get hI
  have n7 := B.1
  have t6 := B.2.1
  have hR : ∀ c, qv_P n t s T o b (qa_u (qb_rf c σ) 99 9 0) := fun c => qv_P2 qz_rF P
  have hX := hI.2.2.2.2.2.1 trivial
  rcases qw_w x1 with ⟨a1, b1, -⟩ | ⟨-, a1, b1⟩
  · exact qz_R (g := ma_189_99 N x1) (c := 2) hI (by unfold ma_56_3; rw [if_pos a1, qb_9_2]; rfl) (by have hP := hR 2; unfold ma_189_99; dsimp only [qa_in]; rw [if_pos b1]; rfl)
  have F : qb_F qb_sm2 σ (ma_56_3 N x1 σ).2 := mf_56_3 qb_hw (qb_hm (by omega)) qb_Fr
  have hP := qv_P2 F P
  exact mh_189_99 qz_hw (qz_hm hN) b1 (mh_56_3 qz_hw (qz_hm hN) a1 hX)
theorem qz_85 (hN : 5000 ≤ N) (hI : qb_I True False σ) (x1 : Int32) : qb_iX (ma_205_99 N x1 (ma_85_3 N x1 σ).2).2 := by
  obtain ⟨n, t, s, T, o, b, B, C, P⟩ := qv_get hI
  have n7 := B.1
  have t6 := B.2.1
  have hR : ∀ c, qv_P n t s T o b (qa_u (qb_rf c σ) 99 9 0) := fun c => qv_P2 qz_rF P
  have hX := hI.2.2.2.2.2.1 trivial
  rcases qw_w x1 with ⟨a1, b1, -⟩ | ⟨-, a1, b1⟩
  · exact qz_R (g := ma_205_99 N x1) (c := 2) hI (by unfold ma_85_3; rw [if_pos a1, qb_9_2]; rfl) (by have hP := hR 2; unfold ma_205_99; dsimp only [qa_in]; rw [if_pos b1]; rfl)
  have F : qb_F qb_sm2 σ (ma_85_3 N x1 σ).2 := mf_85_3 qb_hw (qb_hm (by omega)) qb_Fr
  have hP := qv_P2 F P
  exact mh_205_99 qz_hw (qz_hm hN) b1 (mh_85_3 qz_hw (qz_hm hN) a1 hX)
theorem qz_86 (hN : 5000 ≤ N) (hI : qb_I True False σ) (x1 : Int32) : qb_iX (ma_206_99 N x1 (ma_86_3 N x1 σ).2).2 := by
  obtain ⟨n, t, s, T, o, b, B, C, P⟩ := qv_get hI
  have n7 := B.1
  have t6 := B.2.1
  have hR : ∀ c, qv_P n t s T o b (qa_u (qb_rf c σ) 99 9 0) := fun c => qv_P2 qz_rF P
  have hX := hI.2.2.2.2.2.1 trivial
  rcases qw_w x1 with ⟨a1, b1, -⟩ | ⟨-, a1, b1⟩
  · exact qz_R (g := ma_206_99 N x1) (c := 2) hI (by unfold ma_86_3; rw [if_pos a1, qb_9_2]; rfl) (by have hP := hR 2; unfold ma_206_99; dsimp only [qa_in]; rw [if_pos b1]; rfl)
  have F : qb_F qb_sm2 σ (ma_86_3 N x1 σ).2 := mf_86_3 qb_hw (qb_hm (by omega)) qb_Fr
  have hP := qv_P2 F P
  exact mh_206_99 qz_hw (qz_hm hN) b1 (mh_86_3 qz_hw (qz_hm hN) a1 hX)
theorem qz_98 (hN : 5000 ≤ N) (hI : qb_I True False σ) (x1 : Int32) : qb_iX (ma_217_99 N x1 (ma_98_3 N x1 σ).2).2 := by
  obtain ⟨n, t, s, T, o, b, B, C, P⟩ := qv_get hI
  have n7 := B.1
  have t6 := B.2.1
  have hR : ∀ c, qv_P n t s T o b (qa_u (qb_rf c σ) 99 9 0) := fun c => qv_P2 qz_rF P
  have hX := hI.2.2.2.2.2.1 trivial
  rcases qw_w x1 with ⟨a1, b1, -⟩ | ⟨-, a1, b1⟩
  · exact qz_R (g := ma_217_99 N x1) (c := 2) hI (by unfold ma_98_3; rw [if_pos a1, qb_9_2]; rfl) (by have hP := hR 2; unfold ma_217_99; dsimp only [qa_in]; rw [if_pos b1]; rfl)
  have F : qb_F qb_sm2 σ (ma_98_3 N x1 σ).2 := mf_98_3 qb_hw (qb_hm (by omega)) qb_Fr
  have hP := qv_P2 F P
  exact mh_217_99 qz_hw (qz_hm hN) b1 (mh_98_3 qz_hw (qz_hm hN) a1 hX)
theorem qz_122 (hN : 5000 ≤ N) (hI : qb_I True False σ) (x1 : Int32) : qb_iX (ma_234_99 N x1 (ma_122_3 N x1 σ).2).2 := by
  obtain ⟨n, t, s, T, o, b, B, C, P⟩ := qv_get hI
  have n7 := B.1
  have t6 := B.2.1
  have hR : ∀ c, qv_P n t s T o b (qa_u (qb_rf c σ) 99 9 0) := fun c => qv_P2 qz_rF P
  have hX := hI.2.2.2.2.2.1 trivial
  rcases qw_w x1 with ⟨a1, b1, -⟩ | ⟨-, a1, b1⟩
  · exact qz_R (g := ma_234_99 N x1) (c := 2) hI (by unfold ma_122_3; rw [if_pos a1, qb_9_2]; rfl) (by have hP := hR 2; unfold ma_234_99; dsimp only [qa_in]; rw [if_pos b1]; rfl)
  have F : qb_F qb_sm2 σ (ma_122_3 N x1 σ).2 := mf_122_3 qb_hw (qb_hm (by omega)) qb_Fr
  have hP := qv_P2 F P
  exact mh_234_99 qz_hw (qz_hm hN) b1 (mh_122_3 qz_hw (qz_hm hN) a1 hX)
theorem qz_137 (hN : 5000 ≤ N) (hI : qb_I True False σ) (x1 : Int32) : qb_iX (ma_245_99 N x1 (ma_137_3 N x1 σ).2).2 := by
  obtain ⟨n, t, s, T, o, b, B, C, P⟩ := qv_get hI
  have n7 := B.1
  have t6 := B.2.1
  have hR : ∀ c, qv_P n t s T o b (qa_u (qb_rf c σ) 99 9 0) := fun c => qv_P2 qz_rF P
  have hX := hI.2.2.2.2.2.1 trivial
  rcases qw_w x1 with ⟨a1, b1, -⟩ | ⟨-, a1, b1⟩
  · exact qz_R (g := ma_245_99 N x1) (c := 2) hI (by unfold ma_137_3; rw [if_pos a1, qb_9_2]; rfl) (by have hP := hR 2; unfold ma_245_99; dsimp only [qa_in]; rw [if_pos b1]; rfl)
  have F : qb_F qb_sm2 σ (ma_137_3 N x1 σ).2 := mf_137_3 qb_hw (qb_hm (by omega)) qb_Fr
  have hP := qv_P2 F P
  exact mh_245_99 qz_hw (qz_hm hN) b1 (mh_137_3 qz_hw (qz_hm hN) a1 hX)
theorem qz_124 (hN : 5000 ≤ N) (hI : qb_I True False σ) (x1 : Int32) : qb_iX (ma_236_99 N x1 (ma_124_3 N x1 σ).2).2 := by
  obtain ⟨n, t, s, T, o, b, B, C, P⟩ := qv_get hI
  have n7 := B.1
  have t6 := B.2.1
  have hR : ∀ c, qv_P n t s T o b (qa_u (qb_rf c σ) 99 9 0) := fun c => qv_P2 qz_rF P
  have hX := hI.2.2.2.2.2.1 trivial
  rcases qw_t t6 x1 with ⟨a1, b1⟩ | ⟨-, -, -, a1, b1⟩
  · exact qz_R (g := ma_236_99 N x1) (c := 1) hI (by unfold ma_124_3; rw [if_pos (a1 σ C.2.1), qb_9_1]; rfl) (by have hP := hR 1; unfold ma_236_99; dsimp only [qa_in]; rw [if_pos (b1 _ hP.2.1)]; rfl)
  have F : qb_F qb_sm2 σ (ma_124_3 N x1 σ).2 := mf_124_3 qb_hw (qb_hm (by omega)) qb_Fr
  have hP := qv_P2 F P
  exact mh_236_99 qz_hw (qz_hm hN) (b1 _ hP.2.1) (mh_124_3 qz_hw (qz_hm hN) (a1 σ C.2.1) hX)
theorem qz_125 (hN : 5000 ≤ N) (hI : qb_I True False σ) (x1 : Int32) : qb_iX (ma_237_99 N x1 (ma_125_3 N x1 σ).2).2 := by
  obtain ⟨n, t, s, T, o, b, B, C, P⟩ := qv_get hI
  have n7 := B.1
  have t6 := B.2.1
  have hR : ∀ c, qv_P n t s T o b (qa_u (qb_rf c σ) 99 9 0) := fun c => qv_P2 qz_rF P
  have hX := hI.2.2.2.2.2.1 trivial
  rcases qw_t t6 x1 with ⟨a1, b1⟩ | ⟨-, -, -, a1, b1⟩
  · exact qz_R (g := ma_237_99 N x1) (c := 1) hI (by unfold ma_125_3; rw [if_pos (a1 σ C.2.1), qb_9_1]; rfl) (by have hP := hR 1; unfold ma_237_99; dsimp only [qa_in]; rw [if_pos (b1 _ hP.2.1)]; rfl)
  have F : qb_F qb_sm2 σ (ma_125_3 N x1 σ).2 := mf_125_3 qb_hw (qb_hm (by omega)) qb_Fr
  have hP := qv_P2 F P
  exact mh_237_99 qz_hw (qz_hm hN) (b1 _ hP.2.1) (mh_125_3 qz_hw (qz_hm hN) (a1 σ C.2.1) hX)
theorem qz_129 (hN : 5000 ≤ N) (hI : qb_I True False σ) (x1 : Int32) : qb_iX (ma_239_99 N x1 (ma_129_3 N x1 σ).2).2 := by
  obtain ⟨n, t, s, T, o, b, B, C, P⟩ := qv_get hI
  have n7 := B.1
  have t6 := B.2.1
  have hR : ∀ c, qv_P n t s T o b (qa_u (qb_rf c σ) 99 9 0) := fun c => qv_P2 qz_rF P
  have hX := hI.2.2.2.2.2.1 trivial
  rcases qw_t t6 x1 with ⟨a1, b1⟩ | ⟨-, -, -, a1, b1⟩
  · exact qz_R (g := ma_239_99 N x1) (c := 1) hI (by unfold ma_129_3; rw [if_pos (a1 σ C.2.1), qb_9_1]; rfl) (by have hP := hR 1; unfold ma_239_99; dsimp only [qa_in]; rw [if_pos (b1 _ hP.2.1)]; rfl)
  have F : qb_F qb_sm2 σ (ma_129_3 N x1 σ).2 := mf_129_3 qb_hw (qb_hm (by omega)) qb_Fr
  have hP := qv_P2 F P
  exact mh_239_99 qz_hw (qz_hm hN) (b1 _ hP.2.1) (mh_129_3 qz_hw (qz_hm hN) (a1 σ C.2.1) hX)
theorem qz_139 (hN : 5000 ≤ N) (hI : qb_I True False σ) (x1 : Int32) : qb_iX (ma_246_99 N x1 (ma_139_3 N x1 σ).2).2 := by
  obtain ⟨n, t, s, T, o, b, B, C, P⟩ := qv_get hI
  have n7 := B.1
  have t6 := B.2.1
  have hR : ∀ c, qv_P n t s T o b (qa_u (qb_rf c σ) 99 9 0) := fun c => qv_P2 qz_rF P
  have hX := hI.2.2.2.2.2.1 trivial
  rcases qw_c n7 x1 with ⟨a1, b1⟩ | ⟨-, -, -, a1, b1⟩
  · exact qz_R (g := ma_246_99 N x1) (c := 1) hI (by unfold ma_139_3; rw [if_pos (a1 σ C.1), qb_9_1]; rfl) (by have hP := hR 1; unfold ma_246_99; dsimp only [qa_in]; rw [if_pos (b1 _ hP.1)]; rfl)
  have F : qb_F qb_sm2 σ (ma_139_3 N x1 σ).2 := mf_139_3 qb_hw (qb_hm (by omega)) qb_Fr
  have hP := qv_P2 F P
  exact mh_246_99 qz_hw (qz_hm hN) (b1 _ hP.1) (mh_139_3 qz_hw (qz_hm hN) (a1 σ C.1) hX)
theorem qz_118 (hN : 5000 ≤ N) (hI : qb_I True False σ) (x1 : Int32) : qb_iX (ma_231_99 N x1 (ma_118_3 N x1 σ).2).2 := by
  obtain ⟨n, t, s, T, o, b, B, C, P⟩ := qv_get hI
  have n7 := B.1
  have t6 := B.2.1
  have hR : ∀ c, qv_P n t s T o b (qa_u (qb_rf c σ) 99 9 0) := fun c => qv_P2 qz_rF P
  have hX := hI.2.2.2.2.2.1 trivial
  rcases qw_m x1 with ⟨a1, b1⟩ | ⟨-, -, -, a1, b1⟩
  · exact qz_R (g := ma_231_99 N x1) (c := 1) hI (by unfold ma_118_3; rw [if_pos a1, qb_9_1]; rfl) (by have hP := hR 1; unfold ma_231_99; dsimp only [qa_in]; rw [if_pos b1]; rfl)
  have F : qb_F qb_sm2 σ (ma_118_3 N x1 σ).2 := mf_118_3 qb_hw (qb_hm (by omega)) qb_Fr
  have hP := qv_P2 F P
  exact mh_231_99 qz_hw (qz_hm hN) b1 (mh_118_3 qz_hw (qz_hm hN) a1 hX)
theorem qz_64 (hN : 5000 ≤ N) (hI : qb_I True False σ) (x1 : Int32) : qb_iX (ma_192_99 N x1 (ma_64_3 N x1 σ).2).2 := by
  obtain ⟨n, t, s, T, o, b, B, C, P⟩ := qv_get hI
  have n7 := B.1
  have t6 := B.2.1
  have hR : ∀ c, qv_P n t s T o b (qa_u (qb_rf c σ) 99 9 0) := fun c => qv_P2 qz_rF P
  have hX := hI.2.2.2.2.2.1 trivial
  by_cases a1 : x1 < -1
  · exact qz_R (g := ma_192_99 N x1) (c := 4) hI (by unfold ma_64_3; rw [if_pos a1, qb_9_4]; rfl) (by have hP := hR 4; unfold ma_192_99; dsimp only [qa_in]; rw [if_pos a1]; rfl)
  have F : qb_F qb_sm2 σ (ma_64_3 N x1 σ).2 := mf_64_3 qb_hw (qb_hm (by omega)) qb_Fr
  have hP := qv_P2 F P
  exact mh_192_99 qz_hw (qz_hm hN) a1 (mh_64_3 qz_hw (qz_hm hN) a1 hX)
theorem qz_133 (hN : 5000 ≤ N) (hI : qb_I True False σ) (x1 : Int32) : qb_iX (ma_242_99 N x1 (ma_133_3 N x1 σ).2).2 := by
  obtain ⟨n, t, s, T, o, b, B, C, P⟩ := qv_get hI
  have n7 := B.1
  have t6 := B.2.1
  have hR : ∀ c, qv_P n t s T o b (qa_u (qb_rf c σ) 99 9 0) := fun c => qv_P2 qz_rF P
  have hX := hI.2.2.2.2.2.1 trivial
  by_cases a1 : x1 < 0
  · exact qz_R (g := ma_242_99 N x1) (c := 4) hI (by unfold ma_133_3; rw [if_pos a1, qb_9_4]; rfl) (by have hP := hR 4; unfold ma_242_99; dsimp only [qa_in]; rw [if_pos a1]; rfl)
  have F : qb_F qb_sm2 σ (ma_133_3 N x1 σ).2 := mf_133_3 qb_hw (qb_hm (by omega)) qb_Fr
  have hP := qv_P2 F P
  exact mh_242_99 qz_hw (qz_hm hN) a1 (mh_133_3 qz_hw (qz_hm hN) a1 hX)
theorem qz_89 (hN : 5000 ≤ N) (hI : qb_I True False σ) (x1 x2 : Int32) : qb_iX (ma_209_99 N x1 x2 (ma_89_3 N x1 x2 σ).2).2 := by
  obtain ⟨n, t, s, T, o, b, B, C, P⟩ := qv_get hI
  have n7 := B.1
  have t6 := B.2.1
  have hR : ∀ c, qv_P n t s T o b (qa_u (qb_rf c σ) 99 9 0) := fun c => qv_P2 qz_rF P
  have hX := hI.2.2.2.2.2.1 trivial
  rcases qw_t t6 x1 with ⟨a1, b1⟩ | ⟨-, -, -, a1, b1⟩
  · exact qz_R (g := ma_209_99 N x1 x2) (c := 1) hI (by unfold ma_89_3; rw [if_pos (a1 σ C.2.1), qb_9_1]; rfl) (by have hP := hR 1; unfold ma_209_99; dsimp only [qa_in]; rw [if_pos (b1 _ hP.2.1)]; rfl)
  rcases qw_c n7 x2 with ⟨a2, b2⟩ | ⟨-, -, -, a2, b2⟩
  · exact qz_R (g := ma_209_99 N x1 x2) (c := 1) hI (by unfold ma_89_3; rw [if_neg (a1 σ C.2.1), if_pos (a2 σ C.1), qb_9_1]; rfl) (by have hP := hR 1; unfold ma_209_99; dsimp only [qa_in]; rw [if_neg (b1 _ hP.2.1), if_pos (b2 _ hP.1)]; rfl)
  have F : qb_F qb_sm2 σ (ma_89_3 N x1 x2 σ).2 := mf_89_3 qb_hw (qb_hm (by omega)) qb_Fr
  have hP := qv_P2 F P
  exact mh_209_99 qz_hw (qz_hm hN) (b1 _ hP.2.1) (b2 _ hP.1) (mh_89_3 qz_hw (qz_hm hN) (a1 σ C.2.1) (a2 σ C.1) hX)
theorem qz_43 (hN : 5000 ≤ N) (hI : qb_I True False σ) (x1 x2 : Int32) : qb_iX (ma_179_99 N x1 x2 (ma_43_3 N x1 x2 σ).2).2 := by
  obtain ⟨n, t, s, T, o, b, B, C, P⟩ := qv_get hI
  have n7 := B.1
  have t6 := B.2.1
  have hR : ∀ c, qv_P n t s T o b (qa_u (qb_rf c σ) 99 9 0) := fun c => qv_P2 qz_rF P
  have hX := hI.2.2.2.2.2.1 trivial
  rcases qw_cg n7 x1 with ⟨a1, b1⟩ | ⟨-, a1, b1⟩
  · exact qz_R (g := ma_179_99 N x1 x2) (c := 1) hI (by unfold ma_43_3; rw [if_pos (a1 σ C.1), qb_9_1]; rfl) (by have hP := hR 1; unfold ma_179_99; dsimp only [qa_in]; rw [if_pos (b1 _ hP.1)]; rfl)
  rcases qw_m x2 with ⟨a2, b2⟩ | ⟨-, -, -, a2, b2⟩
  · exact qz_R (g := ma_179_99 N x1 x2) (c := 1) hI (by unfold ma_43_3; rw [if_neg (a1 σ C.1), if_pos a2, qb_9_1]; rfl) (by have hP := hR 1; unfold ma_179_99; dsimp only [qa_in]; rw [if_neg (b1 _ hP.1), if_pos b2]; rfl)
  have F : qb_F qb_sm2 σ (ma_43_3 N x1 x2 σ).2 := mf_43_3 qb_hw (qb_hm (by omega)) qb_Fr
  have hP := qv_P2 F P
  exact mh_179_99 qz_hw (qz_hm hN) (b1 _ hP.1) b2 (mh_43_3 qz_hw (qz_hm hN) (a1 σ C.1) a2 hX)
theorem qz_49 (hN : 5000 ≤ N) (hI : qb_I True False σ) (x1 x2 x3 : Int32) : qb_iX (ma_184_99 N x1 x2 x3 (ma_49_3 N x1 x2 x3 σ).2).2 := by
  obtain ⟨n, t, s, T, o, b, B, C, P⟩ := qv_get hI
  have n7 := B.1
  have t6 := B.2.1
  have hR : ∀ c, qv_P n t s T o b (qa_u (qb_rf c σ) 99 9 0) := fun c => qv_P2 qz_rF P
  have hX := hI.2.2.2.2.2.1 trivial
  rcases qw_t t6 x1 with ⟨a1, b1⟩ | ⟨-, -, -, a1, b1⟩
  · exact qz_R (g := ma_184_99 N x1 x2 x3) (c := 1) hI (by unfold ma_49_3; rw [if_pos (a1 σ C.2.1), qb_9_1]; rfl) (by have hP := hR 1; unfold ma_184_99; dsimp only [qa_in]; rw [if_pos (b1 _ hP.2.1)]; rfl)
  rcases qw_cg n7 x2 with ⟨a2, b2⟩ | ⟨-, a2, b2⟩
  · exact qz_R (g := ma_184_99 N x1 x2 x3) (c := 1) hI (by unfold ma_49_3; rw [if_neg (a1 σ C.2.1), if_pos (a2 σ C.1), qb_9_1]; rfl) (by have hP := hR 1; unfold ma_184_99; dsimp only [qa_in]; rw [if_neg (b1 _ hP.2.1), if_pos (b2 _ hP.1)]; rfl)
  rcases qw_m x3 with ⟨a3, b3⟩ | ⟨-, -, -, a3, b3⟩
  · exact qz_R (g := ma_184_99 N x1 x2 x3) (c := 1) hI (by unfold ma_49_3; rw [if_neg (a1 σ C.2.1), if_neg (a2 σ C.1), if_pos a3, qb_9_1]; rfl) (by have hP := hR 1; unfold ma_184_99; dsimp only [qa_in]; rw [if_neg (b1 _ hP.2.1), if_neg (b2 _ hP.1), if_pos b3]; rfl)
  have F : qb_F qb_sm2 σ (ma_49_3 N x1 x2 x3 σ).2 := mf_49_3 qb_hw (qb_hm (by omega)) qb_Fr
  have hP := qv_P2 F P
  exact mh_184_99 qz_hw (qz_hm hN) (b1 _ hP.2.1) (b2 _ hP.1) b3 (mh_49_3 qz_hw (qz_hm hN) (a1 σ C.2.1) (a2 σ C.1) a3 hX)
theorem qz_136 (hN : 5000 ≤ N) (hI : qb_I True False σ) (x1 x2 : Int32) : qb_iX (ma_244_99 N x1 x2 (ma_136_3 N x1 x2 σ).2).2 := by
  obtain ⟨n, t, s, T, o, b, B, C, P⟩ := qv_get hI
  have n7 := B.1
  have t6 := B.2.1
  have hR : ∀ c, qv_P n t s T o b (qa_u (qb_rf c σ) 99 9 0) := fun c => qv_P2 qz_rF P
  have hX := hI.2.2.2.2.2.1 trivial
  rcases qw_t t6 x1 with ⟨a1, b1⟩ | ⟨-, -, -, a1, b1⟩
  · exact qz_R (g := ma_244_99 N x1 x2) (c := 1) hI (by unfold ma_136_3; rw [if_pos (a1 σ C.2.1), qb_9_1]; rfl) (by have hP := hR 1; unfold ma_244_99; dsimp only [qa_in]; rw [if_pos (b1 _ hP.2.1), if_pos (show (-1 : Int32) < 0 by decide)]; rfl)
  rcases qb_201 (x2 := x2) with ⟨a2, b2⟩ | ⟨a2, b2⟩
  · exact qz_R (g := ma_244_99 N x1 x2) (c := 2) hI (by unfold ma_136_3; rw [if_neg (a1 σ C.2.1), if_pos a2, qb_9_2]; rfl) (by have hP := hR 2; unfold ma_244_99; dsimp only [qa_in]; rw [if_neg (b1 _ hP.2.1), b2, if_pos (show (-2 : Int32) < 0 by decide)]; rfl)
  have F : qb_F qb_sm2 σ (ma_136_3 N x1 x2 σ).2 := mf_136_3 qb_hw (qb_hm (by omega)) qb_Fr
  have hP := qv_P2 F P
  exact mh_244_99 qz_hw (qz_hm hN) (by rw [if_neg (b1 _ hP.2.1), b2]; decide) (mh_136_3 qz_hw (qz_hm hN) (a1 σ C.2.1) a2 hX)
theorem qz_80 (hN : 5000 ≤ N) (hI : qb_I True False σ) (x1 x2 : Int32) : qb_iX (ma_200_99 N x1 x2 (ma_80_3 N x1 x2 σ).2).2 := by
  obtain ⟨n, t, s, T, o, b, B, C, P⟩ := qv_get hI
  have n7 := B.1
  have t6 := B.2.1
  have hR : ∀ c, qv_P n t s T o b (qa_u (qb_rf c σ) 99 9 0) := fun c => qv_P2 qz_rF P
  have hX := hI.2.2.2.2.2.1 trivial
  rcases qw_c n7 x1 with ⟨a1, b1⟩ | ⟨-, -, -, a1, b1⟩
  · exact qz_R (g := ma_200_99 N x1 x2) (c := 1) hI (by unfold ma_80_3 ma_81_3; dsimp only [qa_in]; rw [if_pos (a1 σ C.1), qb_9_1]; rfl) (by have hP := hR 1; unfold ma_200_99; dsimp only [qa_in]; rw [if_pos (b1 _ hP.1), if_pos (show (-1 : Int32) < 0 by decide)]; rfl)
  rcases qb_201 (x2 := x2) with ⟨a2, b2⟩ | ⟨a2, b2⟩
  · exact qz_R (g := ma_200_99 N x1 x2) (c := 2) hI (by unfold ma_80_3 ma_81_3; dsimp only [qa_in]; rw [if_neg (a1 σ C.1), if_pos a2, qb_9_2]; rfl) (by have hP := hR 2; unfold ma_200_99; dsimp only [qa_in]; rw [if_neg (b1 _ hP.1), b2, if_pos (show (-2 : Int32) < 0 by decide)]; rfl)
  have F : qb_F qb_sm2 σ (ma_80_3 N x1 x2 σ).2 := mf_80_3 qb_hw (qb_hm (by omega)) qb_Fr
  have hP := qv_P2 F P
  exact mh_200_99 qz_hw (qz_hm hN) (by rw [if_neg (b1 _ hP.1), b2]; decide) (mh_80_3 qz_hw (qz_hm hN) (a1 σ C.1) a2 hX)
theorem qz_6 {n : Nat} {z : Int32} (hn : n ≤ 7) (hz : z = nI n) : 6 < z ↔ 6 < n := by rw [hz]; exact qb_lt (a := 6) (by omega) (by omega)
theorem qz_91 (hN : 5000 ≤ N) (hI : qb_I True False σ) (x1 x2 : Int32) : qb_iX (ma_212_99 N x1 x2 (ma_91_3 N x1 x2 σ).2).2 := by
  obtain ⟨n, t, s, T, o, b, B, C, P⟩ := qv_get hI
  have n7 := B.1
  have t6 := B.2.1
  have hR : ∀ c, qv_P n t s T o b (qa_u (qb_rf c σ) 99 9 0) := fun c => qv_P2 qz_rF P
  have hX := hI.2.2.2.2.2.1 trivial
  rcases qw_t t6 x1 with ⟨a1, b1⟩ | ⟨-, -, -, a1, b1⟩
  · exact qz_R (g := ma_212_99 N x1 x2) (c := 1) hI (by unfold ma_91_3; rw [if_pos (a1 σ C.2.1), qb_9_1]; rfl) (by have hP := hR 1; unfold ma_212_99; dsimp only [qa_in]; rw [if_pos (b1 _ hP.2.1), if_pos (show (-1 : Int32) < 0 by decide)]; rfl)
  by_cases a2 : x2 < -1
  · exact qz_R (g := ma_212_99 N x1 x2) (c := 4) hI (by unfold ma_91_3; rw [if_neg (a1 σ C.2.1), if_pos a2, qb_9_4]; rfl) (by have hP := hR 4; unfold ma_212_99; dsimp only [qa_in]; rw [if_neg (b1 _ hP.2.1), if_pos a2, if_pos (show (-4 : Int32) < 0 by decide)]; rfl)
  by_cases a3 : 6 < n
  · exact qz_R (g := ma_212_99 N x1 x2) (c := 3) hI (by unfold ma_91_3; rw [if_neg (a1 σ C.2.1), if_neg a2, if_pos ((qz_6 n7 C.1).mpr a3), qb_9_3]; rfl) (by have hP := hR 3; unfold ma_212_99; dsimp only [qa_in]; rw [if_neg (b1 _ hP.2.1), if_neg a2, if_pos ((qz_6 n7 hP.1).mpr a3), if_pos (show (-3 : Int32) < 0 by decide)]; rfl)
  have F : qb_F qb_sm2 σ (ma_91_3 N x1 x2 σ).2 := mf_91_3 qb_hw (qb_hm (by omega)) qb_Fr
  have hP := qv_P2 F P
  exact mh_212_99 qz_hw (qz_hm hN) (by rw [if_neg (b1 _ hP.2.1), if_neg a2, if_neg (fun h => a3 ((qz_6 n7 hP.1).mp h))]; decide) (mh_91_3 qz_hw (qz_hm hN) (a1 σ C.2.1) a2 (fun h => a3 ((qz_6 n7 C.1).mp h)) hX)
theorem qz_102 (hN : 5000 ≤ N) (hI : qb_I True False σ) (x1 x2 x3 x4 : Int32) : qb_iX (ma_220_99 N x1 x2 x3 x4 (ma_102_3 N x1 x2 x3 x4 σ).2).2 := by
  obtain ⟨n, t, s, T, o, b, B, C, P⟩ := qv_get hI
  have n7 := B.1
  have t6 := B.2.1
  have hR : ∀ c, qv_P n t s T o b (qa_u (qb_rf c σ) 99 9 0) := fun c => qv_P2 qz_rF P
  have hX := hI.2.2.2.2.2.1 trivial
  rcases qw_c n7 x1 with ⟨a1, b1⟩ | ⟨-, -, -, a1, b1⟩
  · exact qz_R (g := ma_220_99 N x1 x2 x3 x4) (c := 1) hI (by unfold ma_102_3; rw [if_pos (a1 σ C.1), qb_9_1]; rfl) (by have hP := hR 1; unfold ma_220_99; dsimp only [qa_in]; rw [if_pos (b1 _ hP.1), qz_201 (show (-1 : Int32) < 0 by decide), if_pos (show (-1 : Int32) < 0 by decide)]; rfl)
  by_cases a2 : x2 < 1
  · exact qz_R (g := ma_220_99 N x1 x2 x3 x4) (c := 4) hI (by unfold ma_102_3; rw [if_neg (a1 σ C.1), if_pos a2, qb_9_4]; rfl) (by have hP := hR 4; unfold ma_220_99; dsimp only [qa_in]; rw [if_neg (b1 _ hP.1), if_pos a2, qz_201 (show (-4 : Int32) < 0 by decide), if_pos (show (-4 : Int32) < 0 by decide)]; rfl)
  by_cases a3 : x3 < 0
  · exact qz_R (g := ma_220_99 N x1 x2 x3 x4) (c := 4) hI (by unfold ma_102_3; rw [if_neg (a1 σ C.1), if_neg a2, if_pos a3, qb_9_4]; rfl) (by have hP := hR 4; unfold ma_220_99; dsimp only [qa_in]; rw [if_neg (b1 _ hP.1), if_neg a2, if_pos a3, qz_201 (show (-4 : Int32) < 0 by decide), if_pos (show (-4 : Int32) < 0 by decide)]; rfl)
  by_cases a4 : 99 < x2
  · exact qz_R (g := ma_220_99 N x1 x2 x3 x4) (c := 6) hI (by unfold ma_102_3; rw [if_neg (a1 σ C.1), if_neg a2, if_neg a3, if_pos a4, qb_9_6]; rfl) (by have hP := hR 6; unfold ma_220_99; dsimp only [qa_in]; rw [if_neg (b1 _ hP.1), if_neg a2, if_neg a3, if_pos a4, qz_201 (show (-6 : Int32) < 0 by decide), if_pos (show (-6 : Int32) < 0 by decide)]; rfl)
  by_cases a5 : 99 < x3
  · exact qz_R (g := ma_220_99 N x1 x2 x3 x4) (c := 6) hI (by unfold ma_102_3; rw [if_neg (a1 σ C.1), if_neg a2, if_neg a3, if_neg a4, if_pos a5, qb_9_6]; rfl) (by have hP := hR 6; unfold ma_220_99; dsimp only [qa_in]; rw [if_neg (b1 _ hP.1), if_neg a2, if_neg a3, if_neg a4, if_pos a5, qz_201 (show (-6 : Int32) < 0 by decide), if_pos (show (-6 : Int32) < 0 by decide)]; rfl)
  rcases qb_201 (x2 := x4) with ⟨a6, b6⟩ | ⟨a6, b6⟩
  · exact qz_R (g := ma_220_99 N x1 x2 x3 x4) (c := 2) hI (by unfold ma_102_3; rw [if_neg (a1 σ C.1), if_neg a2, if_neg a3, if_neg a4, if_neg a5, if_pos a6, qb_9_2]; rfl) (by have hP := hR 2; unfold ma_220_99; dsimp only [qa_in]; rw [if_neg (b1 _ hP.1), if_neg a2, if_neg a3, if_neg a4, if_neg a5, b6, if_pos (show (-2 : Int32) < 0 by decide)]; rfl)
  have F : qb_F qb_sm2 σ (ma_102_3 N x1 x2 x3 x4 σ).2 := mf_102_3 qb_hw (qb_hm (by omega)) qb_Fr
  have hP := qv_P2 F P
  exact mh_220_99 qz_hw (qz_hm hN) (by rw [if_neg (b1 _ hP.1), if_neg a2, if_neg a3, if_neg a4, if_neg a5, b6]; decide) (mh_102_3 qz_hw (qz_hm hN) (a1 σ C.1) a2 a3 a4 a5 a6 hX)
theorem qz_106 (hN : 5000 ≤ N) (hI : qb_I True False σ) (x1 x2 : Int32) : qb_iX (ma_223_99 N x1 x2 (ma_106_3 N x1 x2 σ).2).2 := by
  obtain ⟨n, t, s, T, o, b, B, C, P⟩ := qv_get hI
  have n7 := B.1
  have t6 := B.2.1
  have hR : ∀ c, qv_P n t s T o b (qa_u (qb_rf c σ) 99 9 0) := fun c => qv_P2 qz_rF P
  have hX := hI.2.2.2.2.2.1 trivial
  by_cases a1 : x1 < 2
  · exact qz_R (g := ma_223_99 N x1 x2) (c := 4) hI (by unfold ma_106_3 ma_81_3; dsimp only [qa_in]; rw [if_pos a1, qb_9_4]; rfl) (by have hP := hR 4; unfold ma_223_99; dsimp only [qa_in]; rw [show ma_175 x1 2 20 = -4 from if_pos a1, qz_201 (show (-4 : Int32) < 0 by decide), if_pos (show (-4 : Int32) < 0 by decide)]; rfl)
  by_cases a2 : 20 < x1
  · exact qz_R (g := ma_223_99 N x1 x2) (c := 6) hI (by unfold ma_106_3 ma_81_3; dsimp only [qa_in]; rw [if_neg a1, if_pos a2, qb_9_6]; rfl) (by have hP := hR 6; unfold ma_223_99; dsimp only [qa_in]; rw [show ma_175 x1 2 20 = -6 from (if_neg a1).trans (if_pos a2), qz_201 (show (-6 : Int32) < 0 by decide), if_pos (show (-6 : Int32) < 0 by decide)]; rfl)
  rcases qb_201 (x2 := x2) with ⟨a3, b3⟩ | ⟨a3, b3⟩
  · exact qz_R (g := ma_223_99 N x1 x2) (c := 2) hI (by unfold ma_106_3 ma_81_3; dsimp only [qa_in]; rw [if_neg a1, if_neg a2, if_pos a3, qb_9_2]; rfl) (by have hP := hR 2; unfold ma_223_99; dsimp only [qa_in]; rw [show ma_175 x1 2 20 = 0 from (if_neg a1).trans (if_neg a2), b3, if_pos (show (-2 : Int32) < 0 by decide)]; rfl)
  have F : qb_F qb_sm2 σ (ma_106_3 N x1 x2 σ).2 := mf_106_3 qb_hw (qb_hm (by omega)) qb_Fr
  have hP := qv_P2 F P
  exact mh_223_99 qz_hw (qz_hm hN) (by rw [show ma_175 x1 2 20 = 0 from (if_neg a1).trans (if_neg a2), b3]; decide) (mh_106_3 qz_hw (qz_hm hN) a1 a2 a3 hX)
theorem qz_119 (hN : 5000 ≤ N) (hI : qb_I True False σ) (x1 x2 : Int32) : qb_iX (ma_232_99 N x1 x2 (ma_119_3 N x1 x2 σ).2).2 := by
  obtain ⟨n, t, s, T, o, b, B, C, P⟩ := qv_get hI
  have n7 := B.1
  have t6 := B.2.1
  have hR : ∀ c, qv_P n t s T o b (qa_u (qb_rf c σ) 99 9 0) := fun c => qv_P2 qz_rF P
  have hX := hI.2.2.2.2.2.1 trivial
  rcases qw_m x1 with ⟨a1, b1⟩ | ⟨-, -, -, a1, b1⟩
  · exact qz_R (g := ma_232_99 N x1 x2) (c := 1) hI (by unfold ma_119_3; rw [if_pos a1, qb_9_1]; rfl) (by have hP := hR 1; unfold ma_232_99; dsimp only [qa_in]; rw [if_pos b1, if_pos (show (-1 : Int32) < 0 by decide)]; rfl)
  by_cases a2 : x2 < 0
  · exact qz_R (g := ma_232_99 N x1 x2) (c := 4) hI (by unfold ma_119_3; rw [if_neg a1, if_pos a2, qb_9_4]; rfl) (by have hP := hR 4; unfold ma_232_99; dsimp only [qa_in]; rw [if_neg b1, show ma_175 x2 0 99 = -4 from if_pos a2, if_pos (show (-4 : Int32) < 0 by decide)]; rfl)
  by_cases a3 : 99 < x2
  · exact qz_R (g := ma_232_99 N x1 x2) (c := 6) hI (by unfold ma_119_3; rw [if_neg a1, if_neg a2, if_pos a3, qb_9_6]; rfl) (by have hP := hR 6; unfold ma_232_99; dsimp only [qa_in]; rw [if_neg b1, show ma_175 x2 0 99 = -6 from (if_neg a2).trans (if_pos a3), if_pos (show (-6 : Int32) < 0 by decide)]; rfl)
  have F : qb_F qb_sm2 σ (ma_119_3 N x1 x2 σ).2 := mf_119_3 qb_hw (qb_hm (by omega)) qb_Fr
  have hP := qv_P2 F P
  exact mh_232_99 qz_hw (qz_hm hN) (by rw [if_neg b1, show ma_175 x2 0 99 = 0 from (if_neg a2).trans (if_neg a3)]; decide) (mh_119_3 qz_hw (qz_hm hN) a1 a2 a3 hX)
theorem qz_103 (hN : 5000 ≤ N) (hI : qb_I True False σ) (x1 x2 : Int32) : qb_iX (ma_221_99 N x1 x2 (ma_103_3 N x1 x2 σ).2).2 := by
  obtain ⟨n, t, s, T, o, b, B, C, P⟩ := qv_get hI
  have n7 := B.1
  have t6 := B.2.1
  have hR : ∀ c, qv_P n t s T o b (qa_u (qb_rf c σ) 99 9 0) := fun c => qv_P2 qz_rF P
  have hX := hI.2.2.2.2.2.1 trivial
  rcases qw_c n7 x1 with ⟨a1, b1⟩ | ⟨u, hu, eu, a1, b1⟩
  · exact qz_R (g := ma_221_99 N x1 x2) (c := 1) hI (by unfold ma_103_3 ma_81_3; dsimp only [qa_in]; rw [if_pos (a1 σ C.1), qb_9_1]; rfl) (by have hP := hR 1; unfold ma_221_99; dsimp only [qa_in]; rw [if_pos (b1 _ hP.1), if_neg (show ¬ (-1 : Int32) = 0 by decide), if_pos (show (-1 : Int32) < 0 by decide)]; rfl)
  rcases qb_201 (x2 := x2) with ⟨a2, b2⟩ | ⟨a2, b2⟩
  · exact qz_R (g := ma_221_99 N x1 x2) (c := 2) hI (by unfold ma_103_3 ma_81_3; dsimp only [qa_in]; rw [if_neg (a1 σ C.1), if_pos a2, qb_9_2]; rfl) (by have hP := hR 2; unfold ma_221_99; dsimp only [qa_in]; rw [if_neg (b1 _ hP.1), b2, if_neg (show ¬ (-2 : Int32) = 0 by decide), if_pos (show (-2 : Int32) < 0 by decide)]; rfl)
  have sC : σ 7 x1.toNatClampNeg = 0 ↔ s u = 0 := by rw [eu, qb_n (by omega), C.2.2.1 u (by omega)]; exact qw_z (by have := B.2.2.1 u (by omega); omega)
  have sP : ∀ τ, qv_P n t s T o b τ → (τ 103 x1.toNatClampNeg = 0 ↔ s u = 0) := fun τ hP => by rw [eu, qb_n (by omega), hP.2.2.1 u (by omega)]; exact qw_z (by have := B.2.2.1 u (by omega); omega)
  by_cases zs : s u = 0
  · exact qz_R (g := ma_221_99 N x1 x2) (c := 3) hI (by unfold ma_103_3 ma_81_3; dsimp only [qa_in]; rw [if_neg (a1 σ C.1), if_neg a2, if_pos (sC.mpr zs), qb_9_3]; rfl) (by have hP := hR 3; unfold ma_221_99; dsimp only [qa_in]; rw [if_neg (b1 _ hP.1), b2, if_pos rfl, if_pos ((sP _ hP).mpr zs), if_pos (show (-3 : Int32) < 0 by decide)]; rfl)
  have F : qb_F qb_sm2 σ (ma_103_3 N x1 x2 σ).2 := mf_103_3 qb_hw (qb_hm (by omega)) qb_Fr
  have hP := qv_P2 F P
  exact mh_221_99 qz_hw (qz_hm hN) (by rw [if_neg (b1 _ hP.1), b2, if_pos rfl, if_neg (fun h => zs ((sP _ hP).mp h))]; decide) (mh_103_3 qz_hw (qz_hm hN) (a1 σ C.1) a2 (fun h => zs (sC.mp h)) hX)
theorem qz_row {xx yy : Prop} (hI : qb_I xx yy σ) (F : qb_F qb_sm2 σ τ) : qa_u τ 99 9 0 99 35 = 4 ↔ σ 3 16 = 4 := by rw [qb_uN (by omega), F 99 35 (by unfold qb_sm2 qb_sc; omega), hI.2.2.2.2.1.2.1]
theorem qz_110 (hN : 5000 ≤ N) (hI : qb_I True False σ) (x1 x2 : Int32) : qb_iX (ma_225_99 N x1 x2 (ma_110_3 N x1 x2 σ).2).2 := by
  obtain ⟨n, t, s, T, o, b, B, C, P⟩ := qv_get hI
  have n7 := B.1
  have t6 := B.2.1
  have hR : ∀ c, qv_P n t s T o b (qa_u (qb_rf c σ) 99 9 0) := fun c => qv_P2 qz_rF P
  have hX := hI.2.2.2.2.2.1 trivial
  have k4 := fun τ (F : qb_F qb_sm2 σ τ) => qz_row hI F
  rcases qw_t t6 x1 with ⟨a1, b1⟩ | ⟨-, -, -, a1, b1⟩
  · exact qz_R (g := ma_225_99 N x1 x2) (c := 1) hI (by unfold ma_110_3; rw [if_pos (a1 σ C.2.1), qb_9_1]; rfl) (by
      have hP := hR 1
      have e : (if ma_171_99 x1 (qa_u (qb_rf 1 σ) 99 9 0) = 0 then (-1 : Int32) else if ma_158 x2.toInt64 0 1 = 0 then -2 else if qa_u (qb_rf 1 σ) 99 9 0 99 35 = 4 then 0 else -3) = -1 := if_pos (b1 _ hP.2.1)
      unfold ma_225_99; dsimp only [qa_in]; rw [e, if_pos (by decide)]; rfl)
  rcases qw_w x2 with ⟨a2, b2, -⟩ | ⟨-, a2, b2⟩
  · exact qz_R (g := ma_225_99 N x1 x2) (c := 2) hI (by unfold ma_110_3; rw [if_neg (a1 σ C.2.1), if_pos a2, qb_9_2]; rfl) (by
      have hP := hR 2
      have e : (if ma_171_99 x1 (qa_u (qb_rf 2 σ) 99 9 0) = 0 then (-1 : Int32) else if ma_158 x2.toInt64 0 1 = 0 then -2 else if qa_u (qb_rf 2 σ) 99 9 0 99 35 = 4 then 0 else -3) = -2 := by rw [if_neg (b1 _ hP.2.1), if_pos b2]
      unfold ma_225_99; dsimp only [qa_in]; rw [e, if_pos (by decide)]; rfl)
  by_cases a3 : ¬ σ 3 16 = 4
  · exact qz_R (g := ma_225_99 N x1 x2) (c := 3) hI (by unfold ma_110_3; rw [if_neg (a1 σ C.2.1), if_neg a2, if_neg a3, qb_9_3]; rfl) (by
      have hP := hR 3
      have e : (if ma_171_99 x1 (qa_u (qb_rf 3 σ) 99 9 0) = 0 then (-1 : Int32) else if ma_158 x2.toInt64 0 1 = 0 then -2 else if qa_u (qb_rf 3 σ) 99 9 0 99 35 = 4 then 0 else -3) = -3 := by rw [if_neg (b1 _ hP.2.1), if_neg b2, if_neg (fun h => a3 ((k4 _ qz_rF).mp h))]
      unfold ma_225_99; dsimp only [qa_in]; rw [e, if_pos (by decide)]; rfl)
  have a3' : σ 3 16 = 4 := Decidable.of_not_not a3
  have F : qb_F qb_sm2 σ (ma_110_3 N x1 x2 σ).2 := mf_110_3 qb_hw (qb_hm (by omega)) qb_Fr
  have hP := qv_P2 F P
  exact mh_225_99 qz_hw (qz_hm hN) (by rw [if_neg (b1 _ hP.2.1), if_neg b2, if_pos ((k4 _ F).mpr a3')]; decide) (mh_110_3 qz_hw (qz_hm hN) (a1 σ C.2.1) a2 a3' hX)
theorem qz_131 (hN : 5000 ≤ N) (hI : qb_I True False σ) (x1 : Int32) : qb_iX (ma_241_99 N x1 (ma_131_3 N x1 σ).2).2 := by
  obtain ⟨n, t, s, T, o, b, B, C, P⟩ := qv_get hI
  have n7 := B.1
  have t6 := B.2.1
  have hR : ∀ c, qv_P n t s T o b (qa_u (qb_rf c σ) 99 9 0) := fun c => qv_P2 qz_rF P
  have hX := hI.2.2.2.2.2.1 trivial
  have k4 := fun τ (F : qb_F qb_sm2 σ τ) => qz_row hI F
  by_cases a1 : x1 < -1
  · exact qz_R (g := ma_241_99 N x1) (c := 4) hI (by unfold ma_131_3; rw [if_pos a1, qb_9_4]; rfl) (by unfold ma_241_99; dsimp only [qa_in]; rw [if_pos a1, if_pos (show (-4 : Int32) < 0 by decide)]; rfl)
  by_cases a2 : ¬ σ 3 16 = 4
  · exact qz_R (g := ma_241_99 N x1) (c := 3) hI (by unfold ma_131_3; rw [if_neg a1, if_neg a2, qb_9_3]; rfl) (by unfold ma_241_99; dsimp only [qa_in]; rw [if_neg a1, if_neg (fun h => a2 ((k4 _ qz_rF).mp h)), if_pos (show (-3 : Int32) < 0 by decide)]; rfl)
  have a2' : σ 3 16 = 4 := Decidable.of_not_not a2
  have F : qb_F qb_sm2 σ (ma_131_3 N x1 σ).2 := mf_131_3 qb_hw (qb_hm (by omega)) qb_Fr
  have hP := qv_P2 F P
  exact mh_241_99 qz_hw (qz_hm hN) (by rw [if_neg a1, if_pos ((k4 _ F).mpr a2')]; decide) (mh_131_3 qz_hw (qz_hm hN) a1 a2' hX)
theorem qz_51 (hN : 5000 ≤ N) (hI : qb_I True False σ) (x1 x2 x3 : Int32) : qb_iX (ma_187_99 N x1 x2 x3 (ma_51_3 N x1 x2 x3 σ).2).2 := by
  obtain ⟨n, t, s, T, o, b, B, C, P⟩ := qv_get hI
  have n7 := B.1
  have t6 := B.2.1
  have hR : ∀ c, qv_P n t s T o b (qa_u (qb_rf c σ) 99 9 0) := fun c => qv_P2 qz_rF P
  have hX := hI.2.2.2.2.2.1 trivial
  rcases qw_t t6 x1 with ⟨a1, b1⟩ | ⟨-, -, -, a1, b1⟩
  · exact qz_R (g := ma_187_99 N x1 x2 x3) (c := 1) hI (by unfold ma_51_3; rw [if_pos (a1 σ C.2.1), qb_9_1]; rfl) (by have hP := hR 1; unfold ma_187_99; dsimp only [qa_in]; rw [if_pos (b1 _ hP.2.1)]; rfl)
  rcases qw_c n7 x2 with ⟨a2, b2⟩ | ⟨-, -, -, a2, b2⟩
  · exact qz_R (g := ma_187_99 N x1 x2 x3) (c := 1) hI (by unfold ma_51_3; rw [if_neg (a1 σ C.2.1), if_pos (show ma_52_3 x2 x3 σ = 0 from if_pos (a2 σ C.1)), qb_9_1]; rfl) (by have hP := hR 1; unfold ma_187_99; dsimp only [qa_in]; rw [if_neg (b1 _ hP.2.1), if_pos (b2 _ hP.1)]; rfl)
  rcases qw_c n7 x3 with ⟨a3, b3⟩ | ⟨-, -, -, a3, b3⟩
  · exact qz_R (g := ma_187_99 N x1 x2 x3) (c := 1) hI (by unfold ma_51_3; rw [if_neg (a1 σ C.2.1), if_pos (show ma_52_3 x2 x3 σ = 0 from (if_neg (a2 σ C.1)).trans (if_pos (a3 σ C.1))), qb_9_1]; rfl) (by have hP := hR 1; unfold ma_187_99; dsimp only [qa_in]; rw [if_neg (b1 _ hP.2.1), if_neg (b2 _ hP.1), if_pos (b3 _ hP.1)]; rfl)
  by_cases a4 : x2 = x3
  · exact qz_R (g := ma_187_99 N x1 x2 x3) (c := 1) hI (by unfold ma_51_3; rw [if_neg (a1 σ C.2.1), if_pos (show ma_52_3 x2 x3 σ = 0 from (if_neg (a2 σ C.1)).trans ((if_neg (a3 σ C.1)).trans (if_pos a4))), qb_9_1]; rfl) (by have hP := hR 1; unfold ma_187_99; dsimp only [qa_in]; rw [if_neg (b1 _ hP.2.1), if_neg (b2 _ hP.1), if_neg (b3 _ hP.1), if_pos a4]; rfl)
  have a5 : ¬ ma_52_3 x2 x3 σ = 0 := by rw [show ma_52_3 x2 x3 σ = 1 from (if_neg (a2 σ C.1)).trans ((if_neg (a3 σ C.1)).trans (if_neg a4))]; decide
  have F : qb_F qb_sm2 σ (ma_51_3 N x1 x2 x3 σ).2 := mf_51_3 qb_hw (qb_hm (by omega)) qb_Fr
  have hP := qv_P2 F P
  exact mh_187_99 qz_hw (qz_hm hN) (b1 _ hP.2.1) (b2 _ hP.1) (b3 _ hP.1) a4 (mh_51_3 qz_hw (qz_hm hN) (a1 σ C.2.1) a5 hX)
theorem qy_240 {a b c : Int32} (hN : 5000 ≤ N) (c1 : ¬ ma_171_99 a (qa_u σ 99 9 0) = 0) (c2 : ¬ ma_163_99 b (qa_u σ 99 9 0) = 0) (c3 : ¬ ma_163_99 c (qa_u σ 99 9 0) = 0) (c4 : ¬ b = c) (h : qb_iX σ) : qb_iX (ma_240_99 N a b c σ).2 := by
  have h1 : qb_iX (qa_u σ 99 9 0) := qz_mu (by omega) h
  unfold ma_240_99
  dsimp only [qa_in]
  rw [if_neg c1, if_neg c2, if_neg c3, if_neg c4]
  refine qz_mu (by omega) ?_
  refine qb_whP (I := fun (s : Int32 × Int32 × qa_S) => qb_iX s.2.2) (Q := fun (s : Int32 × Int32 × qa_S) => qb_iX s.2.2) (fun s h => h) (fun s h => ?_) N _ (mh_181_99 qz_hw (qz_hm hN) h1)
  unfold mc_240_99_p59
  refine qb_ifP (P := fun x => qa_cs x (fun (s : Int32 × Int32 × qa_S) => qb_iX s.2.2) (fun (s : Int32 × Int32 × qa_S) => qb_iX s.2.2)) h ?_
  show qb_iX _
  exact qz_mu (by omega) h
theorem qz_130 (hN : 5000 ≤ N) (hI : qb_I True False σ) (x1 x2 x3 : Int32) : qb_iX (ma_240_99 N x1 x2 x3 (ma_130_3 N x1 x2 x3 σ).2).2 := by
  obtain ⟨n, t, s, T, o, b, B, C, P⟩ := qv_get hI
  have n7 := B.1
  have t6 := B.2.1
  have hR : ∀ c, qv_P n t s T o b (qa_u (qb_rf c σ) 99 9 0) := fun c => qv_P2 qz_rF P
  have hX := hI.2.2.2.2.2.1 trivial
  rcases qw_t t6 x1 with ⟨a1, b1⟩ | ⟨-, -, -, a1, b1⟩
  · exact qz_R (g := ma_240_99 N x1 x2 x3) (c := 1) hI (by unfold ma_130_3; rw [if_pos (a1 σ C.2.1), qb_9_1]; rfl) (by have hP := hR 1; unfold ma_240_99; dsimp only [qa_in]; rw [if_pos (b1 _ hP.2.1)]; rfl)
  rcases qw_c n7 x2 with ⟨a2, b2⟩ | ⟨-, -, -, a2, b2⟩
  · exact qz_R (g := ma_240_99 N x1 x2 x3) (c := 1) hI (by unfold ma_130_3; rw [if_neg (a1 σ C.2.1), if_pos (show ma_52_3 x2 x3 σ = 0 from if_pos (a2 σ C.1)), qb_9_1]; rfl) (by have hP := hR 1; unfold ma_240_99; dsimp only [qa_in]; rw [if_neg (b1 _ hP.2.1), if_pos (b2 _ hP.1)]; rfl)
  rcases qw_c n7 x3 with ⟨a3, b3⟩ | ⟨-, -, -, a3, b3⟩
  · exact qz_R (g := ma_240_99 N x1 x2 x3) (c := 1) hI (by unfold ma_130_3; rw [if_neg (a1 σ C.2.1), if_pos (show ma_52_3 x2 x3 σ = 0 from (if_neg (a2 σ C.1)).trans (if_pos (a3 σ C.1))), qb_9_1]; rfl) (by have hP := hR 1; unfold ma_240_99; dsimp only [qa_in]; rw [if_neg (b1 _ hP.2.1), if_neg (b2 _ hP.1), if_pos (b3 _ hP.1)]; rfl)
  by_cases a4 : x2 = x3
  · exact qz_R (g := ma_240_99 N x1 x2 x3) (c := 1) hI (by unfold ma_130_3; rw [if_neg (a1 σ C.2.1), if_pos (show ma_52_3 x2 x3 σ = 0 from (if_neg (a2 σ C.1)).trans ((if_neg (a3 σ C.1)).trans (if_pos a4))), qb_9_1]; rfl) (by have hP := hR 1; unfold ma_240_99; dsimp only [qa_in]; rw [if_neg (b1 _ hP.2.1), if_neg (b2 _ hP.1), if_neg (b3 _ hP.1), if_pos a4]; rfl)
  have a5 : ¬ ma_52_3 x2 x3 σ = 0 := by rw [show ma_52_3 x2 x3 σ = 1 from (if_neg (a2 σ C.1)).trans ((if_neg (a3 σ C.1)).trans (if_neg a4))]; decide
  have F : qb_F qb_sm2 σ (ma_130_3 N x1 x2 x3 σ).2 := mf_130_3 qb_hw (qb_hm (by omega)) qb_Fr
  have hP := qv_P2 F P
  exact qy_240 hN (b1 _ hP.2.1) (b2 _ hP.1) (b3 _ hP.1) a4 (mh_130_3 qz_hw (qz_hm hN) (a1 σ C.2.1) a5 hX)
theorem qz_88 (hN : 5000 ≤ N) (hI : qb_I True False σ) : qb_iX (ma_207_99 N (ma_88_3 N σ).2).2 := mh_207_99 qz_hw (qz_hm hN) (mh_88_3 qz_hw (qz_hm hN) (hI.2.2.2.2.2.1 trivial))
theorem qz_90 (hN : 5000 ≤ N) (hI : qb_I True False σ) : qb_iX (ma_210_99 N (ma_90_3 N σ).2).2 := mh_210_99 qz_hw (qz_hm hN) (mh_90_3 qz_hw (qz_hm hN) (hI.2.2.2.2.2.1 trivial))
theorem qz_121 (hN : 5000 ≤ N) (hI : qb_I True False σ) : qb_iX (ma_233_99 N (ma_121_3 N σ).2).2 := mh_233_99 qz_hw (qz_hm hN) (mh_121_3 qz_hw (qz_hm hN) (hI.2.2.2.2.2.1 trivial))
theorem qz_135 (hN : 5000 ≤ N) (hI : qb_I True False σ) : qb_iX (ma_243_99 N (ma_135_3 N σ).2).2 := mh_243_99 qz_hw (qz_hm hN) (mh_135_3 qz_hw (qz_hm hN) (hI.2.2.2.2.2.1 trivial))
theorem qz_111 (hN : 5000 ≤ N) (hI : qb_I True False σ) : qb_iX (ma_226_99 N σ).2 := mh_226_99 qz_hw (qz_hm hN) (hI.2.2.2.2.2.1 trivial)
theorem qz_114 (hN : 5000 ≤ N) (hI : qb_I True False σ) : qb_iX (ma_228_99 N σ).2 := mh_228_99 qz_hw (qz_hm hN) (hI.2.2.2.2.2.1 trivial)
theorem qy_117 {a b : Int32} (hN : 5000 ≤ N) (h : qb_iX σ) : qb_iX (ma_117_3 N a b σ) := by
  unfold ma_117_3
  dsimp only [qa_in]
  show qb_iX _
  exact qz_mu (by omega) (mh_47_4 qz_hw (qz_hm hN) qd_q95 (qz_mu (by omega) h))
theorem qy_115 (hN : 5000 ≤ N) (h : qb_iX σ) : qb_iX (ma_115_3 N σ).2 := by
  unfold ma_115_3
  dsimp only [qa_in]
  refine qb_whP (I := fun (s : Int32 × Int32 × Int32 × qa_S) => qb_iX s.2.2.2) (Q := fun (s : Int32 × Int32 × Int32 × qa_S) => qb_iX s.2.2.2) (fun s h => h) (fun s h => ?_) N _ (mh_87_3 qz_hw (qz_hm hN) h)
  unfold mc_115_3_p14
  refine qb_ifP (P := fun x => qa_cs x (fun (s : Int32 × Int32 × Int32 × qa_S) => qb_iX s.2.2.2) (fun (s : Int32 × Int32 × Int32 × qa_S) => qb_iX s.2.2.2)) ?_ h
  show qb_iX _
  exact qz_mu (by omega) (mh_87_3 qz_hw (qz_hm hN) (qz_mu (by omega) h))
theorem qy_116 (hN : 5000 ≤ N) (h : qb_iX σ) : qb_iX (ma_116_3 N σ).2 := by
  unfold ma_116_3
  dsimp only [qa_in]
  refine qb_whP (I := fun (s : Int32 × Int32 × Int32 × qa_S) => qb_iX s.2.2.2) (Q := fun (s : Int32 × Int32 × Int32 × qa_S) => qb_iX s.2.2.2) (fun s h => h) (fun s h => ?_) N _ (mh_87_3 qz_hw (qz_hm hN) h)
  unfold mc_116_3_p14
  refine qb_ifP (P := fun x => qa_cs x (fun (s : Int32 × Int32 × Int32 × qa_S) => qb_iX s.2.2.2) (fun (s : Int32 × Int32 × Int32 × qa_S) => qb_iX s.2.2.2)) ?_ h
  exact qb_ifP (P := fun z => qb_iX z) (qz_hm hN _ (mh_66_3 qz_hw (qz_hm hN) (qy_117 hN h))) h
theorem qy_219 (hN : 5000 ≤ N) (h : qb_iX σ) : qb_iX (ma_219_99 N σ).2 := by
  unfold ma_219_99
  dsimp only [qa_in]
  refine qb_whP (I := fun (s : Int32 × Int32 × qa_S) => qb_iX s.2.2) (Q := fun (s : Int32 × Int32 × qa_S) => qb_iX s.2.2) (fun s h => h) (fun s h => ?_) N _ (mh_180_99 qz_hw (qz_hm hN) (qz_mu (by omega) h))
  unfold mc_219_99_p13
  refine qb_ifP (P := fun x => qa_cs x (fun (s : Int32 × Int32 × qa_S) => qb_iX s.2.2) (fun (s : Int32 × Int32 × qa_S) => qb_iX s.2.2)) ?_ h
  exact qb_ifP (P := fun z => qb_iX z) (qz_mu (by omega) (mh_218_99 qz_hw (qz_hm hN) (mh_181_99 qz_hw (qz_hm hN) (qz_mu (by omega) h)))) h
theorem qy_229 (hN : 5000 ≤ N) (h : qb_iX σ) : qb_iX (ma_229_99 N σ).2 := by
  unfold ma_229_99
  dsimp only [qa_in]
  refine qb_whP (I := fun (s : Int32 × Int32 × Int32 × qa_S) => qb_iX s.2.2.2) (Q := fun (s : Int32 × Int32 × Int32 × qa_S) => qb_iX s.2.2.2) (fun s h => h) (fun s h => ?_) N _ (mh_193_99 qz_hw (qz_hm hN) (qz_mu (by omega) h))
  unfold mc_229_99_p15
  refine qb_ifP (P := fun x => qa_cs x (fun (s : Int32 × Int32 × Int32 × qa_S) => qb_iX s.2.2.2) (fun (s : Int32 × Int32 × Int32 × qa_S) => qb_iX s.2.2.2)) ?_ h
  show qb_iX _
  exact qz_mu (by omega) (mh_193_99 qz_hw (qz_hm hN) (qz_mu (by omega) h))
theorem qy_230 (hN : 5000 ≤ N) (h : qb_iX σ) : qb_iX (ma_230_99 N σ).2 := by
  unfold ma_230_99
  dsimp only [qa_in]
  refine qb_whP (I := fun (s : Int32 × Int32 × Int32 × qa_S) => qb_iX s.2.2.2) (Q := fun (s : Int32 × Int32 × Int32 × qa_S) => qb_iX s.2.2.2) (fun s h => h) (fun s h => ?_) N _ (mh_193_99 qz_hw (qz_hm hN) (qz_mu (by omega) h))
  unfold mc_230_99_p15
  refine qb_ifP (P := fun x => qa_cs x (fun (s : Int32 × Int32 × Int32 × qa_S) => qb_iX s.2.2.2) (fun (s : Int32 × Int32 × Int32 × qa_S) => qb_iX s.2.2.2)) ?_ h
  exact qb_ifP (P := fun z => qb_iX z) (qz_mu (by omega) (mh_193_99 qz_hw (qz_hm hN) (qz_mu (by omega) h))) h
theorem qz_115 (hN : 5000 ≤ N) (hI : qb_I True False σ) : qb_iX (ma_229_99 N (ma_115_3 N σ).2).2 := qy_229 hN (qy_115 hN (hI.2.2.2.2.2.1 trivial))
theorem qz_116 (hN : 5000 ≤ N) (hI : qb_I True False σ) : qb_iX (ma_230_99 N (ma_116_3 N σ).2).2 := qy_230 hN (qy_116 hN (hI.2.2.2.2.2.1 trivial))
theorem qy_123 {a : Int32} (c1 : ¬ ma_57 a = 0) (hN : 5000 ≤ N) (h : qb_iX σ) : qb_iX (ma_123_3 N a σ).2 := by
  unfold ma_123_3
  rw [if_neg c1]
  dsimp only [qa_in]
  refine qb_whP (I := fun (s : Int32 × Int32 × Int32 × qa_S) => qb_iX s.2.2.2) (Q := fun (s : Int32 × Int32 × Int32 × qa_S) => qb_iX s.2.2.2) (fun s h => h) (fun s h => ?_) N _ (mh_46_3 qz_hw (qz_hm hN) h)
  unfold mc_123_3_p26
  refine qb_ifP (P := fun x => qa_cs x (fun (s : Int32 × Int32 × Int32 × qa_S) => qb_iX s.2.2.2) (fun (s : Int32 × Int32 × Int32 × qa_S) => qb_iX s.2.2.2)) ?_ h
  unfold qa_in qa_cs
  dsimp only
  refine qb_whP (I := fun (s : Int32 × Int32 × Int32 × qa_S) => qb_iX s.2.2.2) (Q := fun (s : Int32 × Int32 × Int32 × qa_S) => qb_iX s.2.2.2) (fun s h => h) (fun s h => ?_) N _ h
  unfold mc_123_3_p56
  refine qb_ifP (P := fun x => qa_cs x (fun (s : Int32 × Int32 × Int32 × qa_S) => qb_iX s.2.2.2) (fun (s : Int32 × Int32 × Int32 × qa_S) => qb_iX s.2.2.2)) h ?_
  exact qb_ifP (P := fun z => qb_iX z) h (qb_ifP (P := fun z => qb_iX z) h (qy_117 hN h))
theorem qz_123 (hN : 5000 ≤ N) (hI : qb_I True False σ) (x1 : Int32) : qb_iX (ma_235_99 N x1 (ma_123_3 N x1 σ).2).2 := by
  obtain ⟨n, t, s, T, o, b, B, C, P⟩ := qv_get hI
  have n7 := B.1
  have t6 := B.2.1
  have hR : ∀ c, qv_P n t s T o b (qa_u (qb_rf c σ) 99 9 0) := fun c => qv_P2 qz_rF P
  have hX := hI.2.2.2.2.2.1 trivial
  rcases qw_w x1 with ⟨a1, b1, -⟩ | ⟨-, a1, b1⟩
  · exact qz_R (g := ma_235_99 N x1) (c := 2) hI (by unfold ma_123_3; rw [if_pos a1, qb_9_2]; rfl) (by have hP := hR 2; unfold ma_235_99; dsimp only [qa_in]; rw [if_pos b1]; rfl)
  have F : qb_F qb_sm2 σ (ma_123_3 N x1 σ).2 := qe_123 (by omega)
  have hP := qv_P2 F P
  exact mh_235_99 qz_hw (qz_hm hN) b1 (qy_123 a1 hN hX)
theorem qy_128 {a : Int32} (c1 : ¬ ma_22_4 a σ = 0) (c2 : ¬ σ 7 a.toNatClampNeg = 0) (hN : 5000 ≤ N) (h : qb_iX σ) : qb_iX (ma_128_3 N a σ).2 := by
  unfold ma_128_3
  rw [if_neg c1]
  rw [if_neg c2]
  dsimp only [qa_in]
  refine qz_mu (by omega) ?_
  refine qb_whP (I := fun (s : Int32 × Int32 × qa_S) => qb_iX s.2.2) (Q := fun (s : Int32 × Int32 × qa_S) => qb_iX s.2.2) (fun s h => h) (fun s h => ?_) N _ (qz_mu (by omega) (mh_46_3 qz_hw (qz_hm hN) h))
  unfold mc_128_3_p57
  refine qb_ifP (P := fun x => qa_cs x (fun (s : Int32 × Int32 × qa_S) => qb_iX s.2.2) (fun (s : Int32 × Int32 × qa_S) => qb_iX s.2.2)) ?_ h
  exact qb_ifP (P := fun z => qb_iX z) h (qy_117 hN h)
theorem qz_128 (hN : 5000 ≤ N) (hI : qb_I True False σ) (x1 : Int32) : qb_iX (ma_238_99 N x1 (ma_128_3 N x1 σ).2).2 := by
  obtain ⟨n, t, s, T, o, b, B, C, P⟩ := qv_get hI
  have n7 := B.1
  have t6 := B.2.1
  have hR : ∀ c, qv_P n t s T o b (qa_u (qb_rf c σ) 99 9 0) := fun c => qv_P2 qz_rF P
  have hX := hI.2.2.2.2.2.1 trivial
  rcases qw_c n7 x1 with ⟨a1, b1⟩ | ⟨u, hu, eu, a1, b1⟩
  · exact qz_R (g := ma_238_99 N x1) (c := 1) hI (by unfold ma_128_3; rw [if_pos (a1 σ C.1), qb_9_1]; rfl) (by
      have hP := hR 1
      have e : (if ma_163_99 x1 (qa_u (qb_rf 1 σ) 99 9 0) = 0 then (-1 : Int32) else if qa_u (qb_rf 1 σ) 99 9 0 103 x1.toNatClampNeg = 0 then -3 else 0) = -1 := if_pos (b1 _ hP.1)
      unfold ma_238_99; dsimp only [qa_in]; rw [e, if_pos (by decide)]; rfl)
  have sC : σ 7 x1.toNatClampNeg = 0 ↔ s u = 0 := by rw [eu, qb_n (by omega), C.2.2.1 u (by omega)]; exact qw_z (by have := B.2.2.1 u (by omega); omega)
  have sP : ∀ τ, qv_P n t s T o b τ → (τ 103 x1.toNatClampNeg = 0 ↔ s u = 0) := fun τ hP => by rw [eu, qb_n (by omega), hP.2.2.1 u (by omega)]; exact qw_z (by have := B.2.2.1 u (by omega); omega)
  by_cases zs : s u = 0
  · exact qz_R (g := ma_238_99 N x1) (c := 3) hI (by unfold ma_128_3; rw [if_neg (a1 σ C.1), if_pos (sC.mpr zs), qb_9_3]; rfl) (by
      have hP := hR 3
      have e : (if ma_163_99 x1 (qa_u (qb_rf 3 σ) 99 9 0) = 0 then (-1 : Int32) else if qa_u (qb_rf 3 σ) 99 9 0 103 x1.toNatClampNeg = 0 then -3 else 0) = -3 := by rw [if_neg (b1 _ hP.1), if_pos ((sP _ hP).mpr zs)]
      unfold ma_238_99; dsimp only [qa_in]; rw [e, if_pos (by decide)]; rfl)
  have F : qb_F qb_sm2 σ (ma_128_3 N x1 σ).2 := qe_128 (by omega)
  have hP := qv_P2 F P
  exact mh_238_99 qz_hw (qz_hm hN) (by rw [if_neg (b1 _ hP.1), if_neg (fun h => zs ((sP _ hP).mp h))]; decide) (qy_128 (a1 σ C.1) (fun h => zs (sC.mp h)) hN hX)
theorem qy_250 {a b c : Int32} (hN : 5000 ≤ N) (c1 : ¬ ma_201 (ma_175 a 1 20) c 1 < 0) (h : qb_iX σ) : qb_iX (ma_250_99 N a b c σ).2 := by
  have h1 : qb_iX (qa_u σ 99 9 0) := qz_mu (by omega) h
  unfold ma_250_99
  refine qb_inP (P := fun (z : Int32 × qa_S) => qb_iX z.2) (fun m em => ?_)
  rw [← em] at h1
  rw [if_neg c1]
  dsimp only [qa_in]
  obtain ⟨-, c2⟩ := qb_159_117T (σ := m) (N := N) (by omega)
  have h2 : qb_iX (ma_159_99_117 N 1 m) := qb_XF c2 (fun x j r => by unfold qb_rX at r; omega) h1
  generalize ma_159_99_117 N 1 m = μ at h2
  have h3 : qb_iX (qa_wh (fun s => s) (mc_250_99_p52 N a c) N ((0 : Int32), b, (0 : Int32), (0 : Int32), μ)).2.2.2.2 := by
    refine qb_whP (I := fun (s : Int32 × Int32 × Int32 × Int32 × qa_S) => qb_iX s.2.2.2.2) (Q := fun (s : Int32 × Int32 × Int32 × Int32 × qa_S) => qb_iX s.2.2.2.2) (fun s h => h) (fun s h => ?_) N _ h2
    unfold mc_250_99_p52
    refine qb_ifP (P := fun x => qa_cs x (fun (s : Int32 × Int32 × Int32 × Int32 × qa_S) => qb_iX s.2.2.2.2) (fun (s : Int32 × Int32 × Int32 × Int32 × qa_S) => qb_iX s.2.2.2.2)) ?_ h
    have h4 : qb_iX (qa_wh (fun s => s) (mc_250_99_p64 N a c s.2.2.1 s.2.2.2.1 s.1) N ((0 : Int32), s.2.1, (0 : Int32), s.2.2.2.2)).2.2.2 := by
      refine qb_whP (I := fun (s : Int32 × Int32 × Int32 × qa_S) => qb_iX s.2.2.2) (Q := fun (s : Int32 × Int32 × Int32 × qa_S) => qb_iX s.2.2.2) (fun s h => h) (fun s h => ?_) N _ h
      unfold mc_250_99_p64
      refine qb_ifP (P := fun x => qa_cs x (fun (s : Int32 × Int32 × Int32 × qa_S) => qb_iX s.2.2.2) (fun (s : Int32 × Int32 × Int32 × qa_S) => qb_iX s.2.2.2)) ?_ h
      show qb_iX _
      exact qz_mu (by omega) h
    exact qb_ifP (P := fun z => qb_iX z) h4 (mh_193_99 qz_hw (qz_hm hN) h4)
  generalize (qa_wh (fun s => s) (mc_250_99_p52 N a c) N ((0 : Int32), b, (0 : Int32), (0 : Int32), μ)).2.2.2.2 = ρ at h3
  obtain ⟨-, u2⟩ := qb_159_117U (σ := ρ) (N := N) (by omega)
  exact qb_XF u2 (fun x j r => by unfold qb_rX at r; omega) h3
theorem qz_143 (hN : 5000 ≤ N) (hI : qb_I True False σ) (x1 x2 x3 : Int32) : qb_iX (ma_250_99 N x1 x2 x3 (ma_143_3 N x1 x2 x3 σ).2).2 := by
  obtain ⟨n, t, s, T, o, b, B, C, P⟩ := qv_get hI
  have n7 := B.1
  have t6 := B.2.1
  have hR : ∀ c, qv_P n t s T o b (qa_u (qb_rf c σ) 99 9 0) := fun c => qv_P2 qz_rF P
  have hX := hI.2.2.2.2.2.1 trivial
  by_cases a1 : x1 < 1
  · exact qz_R (g := ma_250_99 N x1 x2 x3) (c := 4) hI (by unfold ma_143_3; rw [if_pos a1, qb_9_4]; rfl) (by have hP := hR 4; unfold ma_250_99; dsimp only [qa_in]; rw [show ma_175 x1 1 20 = -4 from if_pos a1, qz_201 (show (-4 : Int32) < 0 by decide), if_pos (show (-4 : Int32) < 0 by decide)]; rfl)
  by_cases a2 : 20 < x1
  · exact qz_R (g := ma_250_99 N x1 x2 x3) (c := 6) hI (by unfold ma_143_3; rw [if_neg a1, if_pos a2, qb_9_6]; rfl) (by have hP := hR 6; unfold ma_250_99; dsimp only [qa_in]; rw [show ma_175 x1 1 20 = -6 from (if_neg a1).trans (if_pos a2), qz_201 (show (-6 : Int32) < 0 by decide), if_pos (show (-6 : Int32) < 0 by decide)]; rfl)
  rcases qb_201 (x2 := x3) with ⟨a3, b3⟩ | ⟨a3, b3⟩
  · exact qz_R (g := ma_250_99 N x1 x2 x3) (c := 2) hI (by unfold ma_143_3; rw [if_neg a1, if_neg a2, if_pos a3, qb_9_2]; rfl) (by have hP := hR 2; unfold ma_250_99; dsimp only [qa_in]; rw [show ma_175 x1 1 20 = 0 from (if_neg a1).trans (if_neg a2), b3, if_pos (show (-2 : Int32) < 0 by decide)]; rfl)
  have F : qb_F qb_sm2 σ (ma_143_3 N x1 x2 x3 σ).2 := mf_143_3 qb_hw (qb_hm (by omega)) qb_Fr
  have hP := qv_P2 F P
  exact qy_250 hN (by rw [show ma_175 x1 1 20 = 0 from (if_neg a1).trans (if_neg a2), b3]; decide) (mh_143_3 qz_hw (qz_hm hN) a1 a2 a3 hX)
theorem qy_47F {a1 : Nat} {a2 a3 : Int32} : qb_F (fun a _ => a = 95) σ (ma_47_4 N a1 a2 a3 95 σ) := by
  unfold ma_47_4
  dsimp only [qa_in]
  refine qb_whP (I := fun (s : Int32 × qa_S) => qb_F (fun a _ => a = 95) σ s.2) (Q := fun (s : Int32 × qa_S) => qb_F (fun a _ => a = 95) σ s.2) (fun s h => h) (fun s h => ?_) N _ qb_Fr
  unfold mc_47_4_p3
  refine qb_ifP (P := fun x => qa_cs x (fun (s : Int32 × qa_S) => qb_F (fun a _ => a = 95) σ s.2) (fun (s : Int32 × qa_S) => qb_F (fun a _ => a = 95) σ s.2)) ?_ h
  exact qb_Ft h (qb_Fu (w := fun a _ => a = 95) rfl) (fun _ _ h => h) (fun _ _ h => h)
theorem qy_101F {n c : Nat} (hN : 5000 ≤ N) (n7 : n ≤ 7) (n1 : σ 4 0 = nI n) (hc : c < 7) : qb_F (fun a _ => a = 95 ∨ (17 ≤ a ∧ a < 24)) σ (ma_101_3 N (nI c) σ) := by
  unfold ma_101_3
  dsimp only [qa_in]
  rw [qb_n (k := c) (by omega)]
  obtain ⟨m1, e1⟩ : ∃ m, m = qa_u σ 5 c 4 := ⟨_, rfl⟩
  rw [← e1]
  have F2 : qb_F (fun a _ => 17 ≤ a ∧ a < 24) m1 (ma_29_4 N m1) := (qb_29 (σ := m1) (N := N) (n := n) (K := fun c => m1 5 c) (F := fun c => m1 6 c) (R := fun c m => m1 (9 + c) m) (by omega) n7 (by rw [e1, qb_uA (by omega)]; exact n1) (fun _ _ => rfl) (fun _ _ => rfl) (fun _ _ _ _ => rfl)).2
  obtain ⟨m2, e2⟩ : ∃ m, m = ma_29_4 N m1 := ⟨_, rfl⟩
  rw [← e2] at F2 ⊢
  have F3 : qb_F (fun a _ => a = 95) m2 (ma_47_4 N 7 (-1) 0 95 m2) := qy_47F
  obtain ⟨m3, e3⟩ : ∃ m, m = ma_47_4 N 7 (-1) 0 95 m2 := ⟨_, rfl⟩
  rw [← e3] at F3 ⊢
  obtain ⟨m4, e4⟩ : ∃ m, m = qa_u m3 5 c (σ 5 c) := ⟨_, rfl⟩
  rw [← e4]
  have F4 : qb_F (fun a _ => a = 95 ∨ (17 ≤ a ∧ a < 24)) σ m4 := fun a j hx => by
    rw [e4]
    by_cases e : a = 5 ∧ j = c
    · rw [e.1, e.2, qb_uE]
    · rw [qb_uN (by omega), F3 a j (by omega), F2 a j (by omega), e1, qb_uN (by omega)]
  have F5 : qb_F (fun a _ => 17 ≤ a ∧ a < 24) m4 (ma_29_4 N m4) := (qb_29 (σ := m4) (N := N) (n := n) (K := fun c => m4 5 c) (F := fun c => m4 6 c) (R := fun c m => m4 (9 + c) m) (by omega) n7 ((F4 4 0 (by omega)).trans n1) (fun _ _ => rfl) (fun _ _ => rfl) (fun _ _ _ _ => rfl)).2
  exact qb_Ft F4 F5 (fun _ _ h => h) (fun _ _ h => Or.inr h)
theorem qy_100 (hN : 5000 ≤ N) (hI : qb_I False False σ) (h : qb_iX σ) : qb_iX (ma_100_3 N σ).2 := by
  unfold ma_100_3
  dsimp only [qa_in]
  obtain ⟨n, n7, n1, -, -⟩ := qb_An hI.1
  have h0 : qb_F qb_sm2 σ (ma_46_3 N σ) := mf_46_3 qb_hw (qb_hm (by omega)) qb_Fr
  refine qb_l0 (fun (k : Nat) (s : Int32 × Int32 × qa_S) => s.1 = nI k ∧ qb_I False False s.2.2 ∧ qb_iX s.2.2 ∧ s.2.2 4 0 = nI n) (fun (s : Int32 × Int32 × qa_S) => qb_iX s.2.2) n (by omega) ⟨rfl, qb_scI h0 hI, mh_46_3 qz_hw (qz_hm hN) h, (h0 4 0 (by unfold qb_sm2 qb_sc; omega)).trans n1⟩ ?_ ?_
  · rintro k ⟨s1, s2, s3⟩ hk ⟨h1, h2, h3, h4⟩
    dsimp only at h1 h2 h3 h4
    subst h1
    unfold mc_100_3_p8
    dsimp only [qa_in]
    rw [if_pos (by rw [h4]; exact qb_ltT hk (by omega)), qb_s]
    have g1 := qe_101 (N := N) (c := k) hN (by omega) h2
    have g := qy_101F (N := N) hN n7 h4 (show k < 7 by omega)
    have g3 : qb_iX (ma_101_3 N (nI k) s3) := qb_XF g (fun b i r => by unfold qb_rX at r; omega) h3
    exact ⟨_, rfl, rfl, qb_ifP (P := fun z => qb_I False False z) h2 g1, qb_ifP (P := fun z => qb_iX z) h3 g3, qb_ifP (P := fun (z : qa_S) => z 4 0 = nI n) h4 ((g 4 0 (by omega)).trans h4)⟩
  · rintro ⟨s1, s2, s3⟩ ⟨h1, h2, h3, h4⟩
    dsimp only at h1 h2 h3 h4
    subst h1
    unfold mc_100_3_p8
    dsimp only [qa_in]
    rw [if_neg (by rw [h4]; exact qb_ltF (Nat.le_refl _) (by omega))]
    exact ⟨_, rfl, h3⟩
theorem qz_100 (hN : 5000 ≤ N) (hI : qb_I True False σ) : qb_iX (ma_219_99 N (ma_100_3 N σ).2).2 := qy_219 hN (qy_100 hN (qz_dw hI) (hI.2.2.2.2.2.1 trivial))
theorem qy_141 {a : Int32} (c1 : ¬ ma_26 a = 0) (hN : 5000 ≤ N) (h : qb_iX σ) : qb_iX (ma_141_3 N a σ).2 := by
  unfold ma_141_3
  rw [if_neg c1]
  dsimp only [qa_in]
  have h1 := mk_141_3_p18 (P := qb_iX) (N := N) (n := N) (l1 := a) (s := (0, -9, σ)) qz_hw (qz_hm hN) h
  exact qz_mu (by omega) h1
theorem qy_248 {a : Int32} (c1 : ¬ ma_165 a = 0) (hN : 5000 ≤ N) (h : qb_iX σ) : qb_iX (ma_248_99 N a σ).2 := by
  unfold ma_248_99
  dsimp only [qa_in]
  rw [if_neg c1]
  have h1 := mh_180_99 (P := qb_iX) (N := N) (σ := qa_u (qa_u σ 99 9 0) 99 35 0) qz_hw (qz_hm hN) (qz_mu (by omega) (qz_mu (by omega) h))
  exact qb_csP (P := fun (z : Int32 × qa_S) => qb_iX z.2) (fun _ _ => h1) (fun _ _ => h1)
theorem qz_141 (hN : 5000 ≤ N) (hI : qb_I True False σ) (x1 : Int32) : qb_iX (ma_248_99 N x1 (ma_141_3 N x1 σ).2).2 := by
  rcases qw_m x1 with ⟨a1, b1⟩ | ⟨-, -, -, a1, b1⟩
  · exact qz_R (g := ma_248_99 N x1) (c := 1) hI (by unfold ma_141_3; rw [if_pos a1, qb_9_1]; rfl) (by unfold ma_248_99; dsimp only [qa_in]; rw [if_pos b1]; rfl)
  exact qy_248 b1 hN (qy_141 a1 hN (hI.2.2.2.2.2.1 trivial))
theorem qz_108w {k : Nat} {r : Nat → Nat} (hN : 5000 ≤ N) (n7 : n ≤ 7) (k12 : k ≤ 12) (r99 : ∀ i, i < 12 → r i ≤ 99) (hP : τ 99 0 = nI n) (hR : qv_rx k r τ) (x1 : Int32) : (qa_wh (fun s => s) (mc_224_99_p40 N x1 τ) N ((0 : Int32), (if ma_158 x1.toInt64 0 1 = 0 then (-2 : Int32) else if τ 99 35 = τ 99 0 then 0 else -3))).2 = if ma_158 x1.toInt64 0 1 = 0 then (-2 : Int32) else if k = n ∧ ¬ ∃ i, i < k ∧ 9 < r i then 0 else -3 := by
  obtain ⟨w0, ew⟩ : ∃ w0, w0 = (if ma_158 x1.toInt64 0 1 = 0 then (-2 : Int32) else if τ 99 35 = τ 99 0 then 0 else -3) := ⟨_, rfl⟩
  have L0 : (qa_wh (fun s => s) (mc_224_99_p40 N x1 τ) N ((0 : Int32), w0)).2 = if w0 = 0 then (if ∃ i, i < k ∧ 9 < r i then -3 else 0) else w0 := by
    rw [← qs_no9 r99 k k12]
    refine congrArg Prod.snd (qw_lp (e := fun s => s) (fun j (a : Int32) => (nI j, a)) (fun a => (nI k, a)) (fun i (a : Int32) => if a = 0 then (if 9 < nI (r i) then -3 else a) else a) k w0 (by omega) (fun i a hi => ?_) (fun a => ?_))
    · unfold mc_224_99_p40
      dsimp only
      rw [if_pos (qw_ltT hR.1 hi (by omega)), qb_n (k := i) (by omega), hR.2 i (by omega), qb_s]
    · unfold mc_224_99_p40
      dsimp only
      rw [if_neg (qw_ltF hR.1 (by omega))]
  have ek : (τ 99 35 = τ 99 0) ↔ k = n := by rw [hR.1, hP]; exact qb_eq (by omega) (by omega)
  rw [← ew, L0, ew]
  by_cases a : ma_158 x1.toInt64 0 1 = 0
  · rw [if_pos a, if_pos a, if_neg (by decide)]
  rw [if_neg a, if_neg a]
  by_cases z : k = n
  · rw [if_pos (ek.mpr z), if_pos rfl]
    by_cases h9 : ∃ i, i < k ∧ 9 < r i
    · rw [if_pos h9, if_neg (fun h => h.2 h9)]
    · rw [if_neg h9, if_pos ⟨z, h9⟩]
  · rw [if_neg (fun h => z (ek.mp h)), if_neg (by decide), if_neg (fun h => z h.1)]
theorem qz_109 {k : Nat} {r : Nat → Nat} (hN : 5000 ≤ N) (n7 : n ≤ 7) (k12 : k ≤ 12) (r99 : ∀ i, i < 12 → r i ≤ 99) (C : qv_C n t s T o b σ) (rw1 : qv_rw k r σ) : ma_109_3 N σ = if k = n ∧ ¬ ∃ i, i < k ∧ 9 < r i then 1 else 0 := by
  unfold ma_109_3
  have e2 : (σ 3 16 = σ 4 0) ↔ k = n := by rw [rw1.1, C.1]; exact qb_eq (by omega) (by omega)
  by_cases z : k = n
  · rw [if_pos (e2.mpr z)]
    dsimp only [qa_in]
    have A := qw_lf (e := fun s => Sum.inr s) (step := mc_109_3_p18 N σ) (N := N) (fun i => 9 < r i) (fun i => nI i) (fun _ => (0 : Int32)) 1 (fun z => qa_cs z (fun b3 => b3) (fun b3 => (1 : Int32))) k (by omega) (fun i hi => by
      have ri := r99 i (by omega)
      unfold mc_109_3_p18
      rw [if_pos (qw_ltT rw1.1 hi (by omega)), qb_n (k := i) (by omega), rw1.2 i (by omega), qb_s]
      by_cases c : 9 < r i
      · exact Or.inr ⟨c, _, by rw [if_pos (show (9 : Int32) < nI (r i) from qb_ltT (a := 9) c (by omega))], rfl⟩
      · exact Or.inl ⟨c, by rw [if_neg (show ¬ (9 : Int32) < nI (r i) from qb_ltF (a := 9) (by omega) (by omega))]⟩) ⟨_, by unfold mc_109_3_p18; rw [if_neg (qw_ltF rw1.1 (by omega))], rfl⟩
    rcases A with ⟨i, i1, i2, -, i4⟩ | ⟨i1, i2⟩
    · refine Eq.trans i4 ?_
      rw [if_neg (fun h => h.2 ⟨i, i1, i2⟩)]
    · refine Eq.trans i2 ?_
      rw [if_pos ⟨z, fun h => by obtain ⟨i, a, c⟩ := h; exact i1 i a c⟩]
  · rw [if_neg (fun h => z (e2.mp h)), if_neg (fun h => z h.1)]
theorem qy_108 {a : Int32} (hN : 5000 ≤ N) (c1 : ¬ ma_57 a = 0) (c2 : ¬ ma_109_3 N σ = 0) (h : qb_iX σ) : qb_iX (ma_108_3 N a σ).2 := by
  unfold ma_108_3
  dsimp only [qa_in]
  rw [if_neg c1, if_neg c2]
  exact mh_47_4 qz_hw (qz_hm hN) qd_q95 (mh_46_3 qz_hw (qz_hm hN) h)
theorem qy_224 {a W : Int32} (hN : 5000 ≤ N) (e : (qa_wh (fun s => s) (mc_224_99_p40 N a (qa_u σ 99 9 0)) N ((0 : Int32), (if ma_158 a.toInt64 0 1 = 0 then (-2 : Int32) else if qa_u σ 99 9 0 99 35 = qa_u σ 99 9 0 99 0 then 0 else -3))).2 = W) (c1 : ¬ W < 0) (h : qb_iX σ) : qb_iX (ma_224_99 N a σ).2 := by
  unfold ma_224_99
  dsimp only [qa_in]
  rw [e, if_neg c1]
  have h1 := mh_180_99 (P := qb_iX) (N := N) (σ := qa_u σ 99 9 0) qz_hw (qz_hm hN) (qz_mu (by omega) h)
  refine mh_183_99 qz_hw (qz_hm hN) ?_
  exact mk_224_99_p92 (P := qb_iX) (N := N) (n := N) (l1 := a) (s := (0, ma_180_99 N (qa_u σ 99 9 0))) qz_hw (qz_hm hN) h1
theorem qz_108 (hN : 5000 ≤ N) (hI : qb_I True False σ) (hr : ∀ i, i < 12 → 0 ≤ (σ 92 i).toInt ∧ (σ 92 i).toInt ≤ 99) (x1 : Int32) : qb_iX (ma_224_99 N x1 (ma_108_3 N x1 σ).2).2 := by
  obtain ⟨n, t, s, T, o, b, B, C, P⟩ := qv_get hI
  obtain ⟨k, r, k12, r99, rw1, rx1⟩ := qv_row hI hr
  have n7 := B.1
  have F : qb_F qb_sm2 σ (ma_108_3 N x1 σ).2 := mf_108_3 qb_hw (qb_hm (by omega)) qb_Fr
  have G : ∀ τ, qb_F qb_sm2 σ τ → (qa_wh (fun s => s) (mc_224_99_p40 N x1 (qa_u τ 99 9 0)) N ((0 : Int32), (if ma_158 x1.toInt64 0 1 = 0 then (-2 : Int32) else if qa_u τ 99 9 0 99 35 = qa_u τ 99 9 0 99 0 then 0 else -3))).2 = if ma_158 x1.toInt64 0 1 = 0 then (-2 : Int32) else if k = n ∧ ¬ ∃ i, i < k ∧ 9 < r i then 0 else -3 := fun τ F => qz_108w hN n7 k12 r99 (qv_P2 F P).1 (qv_rF (qb_Fu (w := fun a j => a = 99 ∧ j = 9) ⟨rfl, rfl⟩) (fun a j h c => by omega) (qv_rF F (fun a j h c => by unfold qb_sm2 qb_sc at c; omega) rx1)) x1
  have V := qz_109 (N := N) hN n7 k12 r99 C rw1
  have hX := hI.2.2.2.2.2.1 trivial
  have R : ∀ c (W : Int32), W < 0 → (ma_152_99 W (qa_u (qb_rf c σ) 99 9 0)).2 = qb_rg c (qb_rf c σ) → (qa_wh (fun s => s) (mc_224_99_p40 N x1 (qa_u (qb_rf c σ) 99 9 0)) N ((0 : Int32), (if ma_158 x1.toInt64 0 1 = 0 then (-2 : Int32) else if qa_u (qb_rf c σ) 99 9 0 99 35 = qa_u (qb_rf c σ) 99 9 0 99 0 then 0 else -3))).2 = W → (ma_224_99 N x1 (qb_rf c σ)).2 = qb_rg c (qb_rf c σ) := fun c W w0 w1 e => by
    unfold ma_224_99
    dsimp only [qa_in]
    rw [e, if_pos w0]
    exact w1
  rcases qw_w x1 with ⟨a1, b1, -⟩ | ⟨-, a1, b1⟩
  · exact qz_R (g := ma_224_99 N x1) (c := 2) hI (by unfold ma_108_3; dsimp only [qa_in]; rw [if_pos a1, qb_9_2]; rfl) (R 2 (-2) (by decide) rfl ((G _ qz_rF).trans (if_pos b1)))
  by_cases z : k = n ∧ ¬ ∃ i, i < k ∧ 9 < r i
  · rw [if_pos z] at V
    exact qy_224 hN ((G _ F).trans ((if_neg b1).trans (if_pos z))) (by decide) (qy_108 hN a1 (by rw [V]; decide) hX)
  · rw [if_neg z] at V
    exact qz_R (g := ma_224_99 N x1) (c := 3) hI (by unfold ma_108_3; dsimp only [qa_in]; rw [if_neg a1, if_pos V, qb_9_3]; rfl) (R 3 (-3) (by decide) rfl ((G _ qz_rF).trans ((if_neg b1).trans (if_neg z))))
theorem qz_c48 {xx yy : Prop} (hN : 5000 ≤ N) (hI : qb_I xx yy σ) {m : qa_S} (em : ∀ a j, a ≠ 99 → m a j = σ a j) (e0 : m 99 0 = σ 99 0) : ma_148_4 N σ = (qa_wh (fun s => s) (mc_251_99_p64 N m) N ((0 : Int32), (0 : Int32))).2 := by
  obtain ⟨n, n7, n1, n2, -⟩ := qb_An hI.1
  unfold ma_148_4
  dsimp only [qa_in]
  have h1 := qw_lp (e := fun s => s) (step := mc_148_4_p4 N σ) (fun k (a : Int32) => (nI k, a)) (fun a => (nI n, a)) (fun k a => a + σ 7 k) n 0 (N := N) (by omega) (fun k a hk => by
    unfold mc_148_4_p4
    dsimp only
    rw [if_pos (by rw [n1]; exact qb_ltT hk (by omega)), qb_n (by omega), qb_s]) (fun a => by
    unfold mc_148_4_p4
    dsimp only
    rw [if_neg (by rw [n1]; exact qb_ltF (Nat.le_refl _) (by omega))])
  have h2 := qw_lp (e := fun s => s) (step := mc_251_99_p64 N m) (fun k (a : Int32) => (nI k, a)) (fun a => (nI n, a)) (fun k a => a + σ 7 k) n 0 (N := N) (by omega) (fun k a hk => by
    unfold mc_251_99_p64
    dsimp only
    rw [if_pos (by rw [e0, n2]; exact qb_ltT hk (by omega)), qb_n (by omega), qb_s, em 103 k (by omega), (qb_alK hI (show k < 7 by omega)).2.2.1]) (fun a => by
    unfold mc_251_99_p64
    dsimp only
    rw [if_neg (by rw [e0, n2]; exact qb_ltF (Nat.le_refl _) (by omega))])
  exact (congrArg Prod.snd h1).trans (congrArg Prod.snd h2).symm
theorem qz_4n {n : Nat} (hn : n ≤ 7) : (4 : Int32) * nI n = nI (4 * n) := by
  have : ∀ n, n ≤ 7 → (4 : Int32) * nI n = nI (4 * n) := by decide
  exact this n hn
theorem qz_c49 {xx yy : Prop} (hN : 5000 ≤ N) (hI : qb_I xx yy σ) {m : qa_S} (em : ∀ a j, a ≠ 99 → m a j = σ a j) (e0 : m 99 0 = σ 99 0) : ma_149_4 N σ = (qa_wh (fun s => s) (mc_251_99_p91 N m) N ((0 : Int32), (0 : Int32))).2 := by
  obtain ⟨n, n7, n1, n2, -⟩ := qb_An hI.1
  unfold ma_149_4
  dsimp only [qa_in]
  have h1 := qw_lp (e := fun s => s) (step := mc_149_4_p4 N σ) (fun k (a : Int32) => (nI k, a)) (fun a => (nI n, a)) (fun c a => qw_f (fun m y => y + σ 102 (4 * c + m)) 4 a) n 0 (N := N) (by omega) (fun c a hc => by
    have h := qw_lp (e := fun s => s) (step := mc_149_4_p14 N (nI c) σ) (fun k (a : Int32) => (nI k, a)) (fun a => (nI 4, a)) (fun m y => y + σ 102 (4 * c + m)) 4 a (N := N) (by omega) (fun k a hk => by
      unfold mc_149_4_p14
      dsimp only
      rw [if_pos (show nI k < (4 : Int32) from qb_ltT (b := 4) hk (by omega)), qb_n (by omega), qb_n (by omega), qb_s, (qb_alK hI (show c < 7 by omega)).2.2.2 k hk]) (fun a => by
      unfold mc_149_4_p14
      dsimp only
      rw [if_neg (show ¬ nI 4 < (4 : Int32) by decide)])
    unfold mc_149_4_p4
    dsimp only [qa_in]
    rw [if_pos (by rw [n1]; exact qb_ltT hc (by omega)), qb_s]
    exact congrArg (fun (z : Int32 × Int32) => Sum.inl (nI (c + 1), z.2)) h) (fun a => by
    unfold mc_149_4_p4
    dsimp only [qa_in]
    rw [if_neg (by rw [n1]; exact qb_ltF (Nat.le_refl _) (by omega))])
  have h2 := qw_lp (e := fun s => s) (step := mc_251_99_p91 N m) (fun k (a : Int32) => (nI k, a)) (fun a => (nI (4 * n), a)) (fun k a => a + σ 102 k) (4 * n) 0 (N := N) (by omega) (fun k a hk => by
    unfold mc_251_99_p91
    dsimp only
    rw [if_pos (by rw [e0, n2, qz_4n n7]; exact qb_ltT hk (by omega)), qb_n (by omega), qb_s, em 102 k (by omega)]) (fun a => by
    unfold mc_251_99_p91
    dsimp only
    rw [if_neg (by rw [e0, n2, qz_4n n7]; exact qb_ltF (Nat.le_refl _) (by omega))])
  exact (congrArg Prod.snd h1).trans ((qw_f4 _ _ n).symm.trans (congrArg Prod.snd h2).symm)
theorem qc_147 {yy : Prop} (hN : 5000 ≤ N) (hI : qb_I True yy σ) (x1 : Int32) : ma_147_3 N x1 σ = (ma_251_99 N x1 σ).1 := by
  obtain ⟨m, em⟩ : ∃ m, m = qa_u σ 99 9 0 := ⟨_, rfl⟩
  have e9 : ∀ j, j ≠ 9 → m 99 j = σ 99 j := fun j hj => by rw [em, qb_uN (by omega)]
  have eA : ∀ a j, a ≠ 99 → m a j = σ a j := fun a j ha => by rw [em, qb_uA ha]
  unfold ma_147_3 ma_251_99
  dsimp only [qa_in]
  rw [← em]
  by_cases c0 : x1 = 0
  · obtain ⟨n, -, n1, n2, -⟩ := qb_An hI.1
    rw [if_pos c0, if_pos c0]
    exact n1.trans ((e9 0 (by decide)).trans n2).symm
  by_cases c1 : x1 = 1
  · obtain ⟨n, -, n1, n2, -⟩ := qb_At hI.1
    rw [if_neg c0, if_neg c0, if_pos c1, if_pos c1]
    exact n1.trans ((e9 5 (by decide)).trans n2).symm
  by_cases c2 : x1 = 2
  · rw [if_neg c0, if_neg c0, if_neg c1, if_neg c1, if_pos c2, if_pos c2]
    exact qz_c48 hN hI eA (e9 0 (by decide))
  by_cases c3 : x1 = 3
  · rw [if_neg c0, if_neg c0, if_neg c1, if_neg c1, if_neg c2, if_neg c2, if_pos c3, if_pos c3]
    exact qz_c49 hN hI eA (e9 0 (by decide))
  by_cases c4 : x1 = 4
  · rw [if_neg c0, if_neg c0, if_neg c1, if_neg c1, if_neg c2, if_neg c2, if_neg c3, if_neg c3, if_pos c4, if_pos c4]
    exact hI.2.2.1.1.trans (e9 17 (by decide)).symm
  by_cases c5 : x1 = 5
  · rw [if_neg c0, if_neg c0, if_neg c1, if_neg c1, if_neg c2, if_neg c2, if_neg c3, if_neg c3, if_neg c4, if_neg c4, if_pos c5, if_pos c5]
    exact hI.2.2.2.2.1.2.1.trans (e9 35 (by decide)).symm
  by_cases c6 : x1 = 6
  · obtain ⟨k, -, k1, k2, -⟩ := hI.2.2.2.1
    rw [if_neg c0, if_neg c0, if_neg c1, if_neg c1, if_neg c2, if_neg c2, if_neg c3, if_neg c3, if_neg c4, if_neg c4, if_neg c5, if_neg c5, if_pos c6, if_pos c6]
    exact k1.trans ((e9 32 (by decide)).trans k2).symm
  rw [if_neg c0, if_neg c0, if_neg c1, if_neg c1, if_neg c2, if_neg c2, if_neg c3, if_neg c3, if_neg c4, if_neg c4, if_neg c5, if_neg c5, if_neg c6, if_neg c6]
  have q : ma_158 x1.toInt64 11 16 = 0 ↔ ¬ (11 ≤ x1.toInt ∧ x1.toInt ≤ 16) := by
    rw [qb_158z, qb_l, show (11 : Int64).toInt = 11 by decide, show (16 : Int64).toInt = 16 by decide]
  have l1 : x1 < 11 ↔ x1.toInt < 11 := Int32.lt_iff_toInt_lt
  have l2 : 16 < x1 ↔ 16 < x1.toInt := Int32.lt_iff_toInt_lt
  by_cases d1 : x1.toInt < 11
  · rw [if_pos (l1.mpr d1), if_pos (q.mpr (by omega))]
  by_cases d2 : 16 < x1.toInt
  · rw [if_neg (fun h => d1 (l1.mp h)), if_pos (l2.mpr d2), if_pos (q.mpr (by omega))]
  rw [if_neg (fun h => d1 (l1.mp h)), if_neg (fun h => d2 (l2.mp h)), if_neg (fun h => q.mp h (by omega))]
  obtain ⟨k, hk, e⟩ : ∃ k, k < 7 ∧ (x1 - 10).toNatClampNeg = k := by
    have e1 : x1 = nI x1.toInt.toNat := Int32.toInt_inj.mp (by rw [nI_toInt (by omega)]; omega)
    have : ∀ k, 11 ≤ k → k ≤ 16 → ((nI k) - 10).toNatClampNeg < 7 := by
      intro k h1 h2
      rcases (show k = 11 ∨ k = 12 ∨ k = 13 ∨ k = 14 ∨ k = 15 ∨ k = 16 by omega) with h | h | h | h | h | h <;> subst h <;> decide
    exact ⟨_, by rw [e1]; exact this _ (by omega) (by omega), rfl⟩
  rw [e, eA 107 k (by omega)]
  exact hI.2.2.2.2.2.1 trivial k hk
end QZ
