/-! carryAll -/
noncomputable def qb_st (s : qa_S) (A j : Nat) : qa_S := qa_u (ma_160_99 (s A j) s).2 A j (ma_160_99 (s A j) s).1
def qb_Z (P p : Nat) (t : Int32) (s : qa_S) : Prop := s 99 29 = nI P ∧ s 99 28 = t ∧ s 99 27 = nI p
def qb_zT (P : Nat) (σ : qa_S) (p : Nat) (s : qa_S) : Prop := qb_Z P p 1 s ∧ (∀ i, i < p → s P i = qb_gm σ i) ∧ qb_F (fun a j => a = P ∨ (a = 99 ∧ 27 ≤ j ∧ j ≤ 29)) σ s
def qb_zU (P : Nat) (σ : qa_S) (p : Nat) (s : qa_S) : Prop := qb_Z P p 0 s ∧ (∀ i, i < p → qb_gm s i = σ P i) ∧ qb_F (fun a j => (100 ≤ a ∧ a ≤ 106) ∨ (a = 99 ∧ (j = 0 ∨ j = 5 ∨ (27 ≤ j ∧ j ≤ 29)))) σ s
theorem qb_sm {p : Nat} : nI (p + 1) - (1 : Int32) = nI p := by rw [← qb_s]; exact Int32.add_sub_cancel _ _
theorem qb_stT {P p A j : Nat} {σ s : qa_S} (hP : 117 ≤ P ∧ P ≤ 120) (h : qb_zT P σ p s) (hp : p < 69) (e : qb_pm p = (A, j)) : qb_zT P σ (p + 1) (qb_st s A j) := by
  obtain ⟨⟨h1, h2, h3⟩, h4, h5⟩ := h
  have b := qb_pmb hp
  rw [e] at b
  dsimp only at b
  have eA : s A j = qb_gm σ p := by
    unfold qb_gm
    rw [e]
    exact h5 A j (by omega)
  unfold qb_st ma_160_99
  dsimp only
  rw [h1, h2, h3, if_neg (by decide), qb_n (k := P) (by omega), qb_n (k := p) (by omega)]
  rw [qb_uN (a := P) (b := 99) (by omega), h3, qb_s]
  rw [show qa_u (qa_u s P p (s A j)) 99 27 (nI (p + 1)) 99 29 = nI P by rw [qb_uN (by omega), qb_uN (by omega)]; exact h1, qb_uE (a := 99), qb_n (k := P) (by omega), qb_sm, qb_n (k := p) (by omega)]
  rw [show qa_u (qa_u s P p (s A j)) 99 27 (nI (p + 1)) P p = s A j by rw [qb_uN (by omega), qb_uE]]
  refine ⟨⟨?_, ?_, ?_⟩, fun i hi => ?_, fun a i ha => ?_⟩
  · rw [qb_uN (by omega), qb_uN (by omega), qb_uN (by omega)]; exact h1
  · rw [qb_uN (by omega), qb_uN (by omega), qb_uN (by omega)]; exact h2
  · rw [qb_uN (by omega), qb_uE]
  · rw [qb_uN (by omega), qb_uN (by omega), qb_uJ]
    by_cases c : i = p
    · rw [if_pos c, c]; exact eA
    · rw [if_neg c]; exact h4 i (by omega)
  · by_cases c : a = A ∧ i = j
    · rw [c.1, c.2, qb_uE]
      exact h5 A j (by omega)
    · rw [qb_uN (by omega), qb_uN (by omega), qb_uN (by omega)]
      exact h5 a i ha
theorem qb_stU {P p A j : Nat} {σ s : qa_S} (hP : 117 ≤ P ∧ P ≤ 120) (h : qb_zU P σ p s) (hp : p < 69) (e : qb_pm p = (A, j)) : qb_zU P σ (p + 1) (qb_st s A j) := by
  obtain ⟨⟨h1, h2, h3⟩, h4, h5⟩ := h
  have b := qb_pmb hp
  rw [e] at b
  dsimp only at b
  unfold qb_st ma_160_99
  dsimp only
  rw [h2, if_pos rfl, h3, qb_s]
  rw [show qa_u s 99 27 (nI (p + 1)) 99 29 = nI P by rw [qb_uN (by omega)]; exact h1, qb_uE (a := 99), qb_n (k := P) (by omega), qb_sm, qb_n (k := p) (by omega)]
  rw [show qa_u s 99 27 (nI (p + 1)) P p = σ P p by rw [qb_uN (by omega)]; exact h5 P p (by omega)]
  refine ⟨⟨?_, ?_, ?_⟩, fun i hi => ?_, fun a i ha => ?_⟩
  · rw [qb_uN (by omega), qb_uN (by omega)]; exact h1
  · rw [qb_uN (by omega), qb_uN (by omega)]; exact h2
  · rw [qb_uN (by omega), qb_uE]
  · rw [qb_mu hp e (by omega)]
    unfold qb_set
    by_cases c : i = p
    · rw [if_pos c, c]
    · rw [if_neg c]
      have b' := qb_pmb (i := i) (by omega)
      have : qb_gm (qa_u s 99 27 (nI (p + 1))) i = qb_gm s i := qb_uN (by omega)
      rw [this]
      exact h4 i (by omega)
  · rw [qb_uN (by omega), qb_uN (by omega)]
    exact h5 a i ha
theorem qb_159_117T {σ : qa_S} {N : Nat} (hN : 40 ≤ N) : (∀ i, i < 69 → ma_159_99_117 N 1 σ 117 i = qb_gm σ i) ∧ qb_F (fun a j => a = 117 ∨ (a = 99 ∧ 27 ≤ j ∧ j ≤ 29)) σ (ma_159_99_117 N 1 σ) := by
  have main : qb_zT 117 σ 69 (ma_159_99_117 N 1 σ) := by
    unfold ma_159_99_117
    dsimp only [qa_in]
    have z0 : qb_zT 117 σ 0 (qa_u (qa_u (qa_u σ 99 29 (117 : Int32)) 99 28 1) 99 27 (0 : Int32)) := by
      refine ⟨⟨?_, ?_, ?_⟩, fun i hi => absurd hi (Nat.not_lt_zero _), fun a j h => ?_⟩
      · rw [qb_uN (by omega), qb_uN (by omega), qb_uE]; rfl
      · rw [qb_uN (by omega), qb_uE]
      · rw [qb_uE]; rfl
      · rw [qb_uN (by omega), qb_uN (by omega), qb_uN (by omega)]
    have z1 := qb_stT (P := 117) (by decide) z0 (by decide) qb_m0
    have z2 := qb_stT (P := 117) (by decide) z1 (by decide) qb_m1
    refine qb_l0 (fun (k : Nat) (s : Int32 × qa_S) => s.1 = nI k ∧ qb_zT 117 σ (51 + 3 * k) s.2) (fun (x : Int32 × qa_S) => qb_zT 117 σ 69 x.2) 6 (by omega) ⟨rfl, ?_⟩ ?_ ?_
    · refine qb_l0 (fun (k : Nat) (s : Int32 × qa_S) => s.1 = nI k ∧ qb_zT 117 σ (23 + k) s.2) (fun (x : Int32 × qa_S) => qb_zT 117 σ 51 x.2) 28 (by omega) ⟨rfl, ?_⟩ ?_ ?_
      · refine qb_l0 (fun (k : Nat) (s : Int32 × qa_S) => s.1 = nI k ∧ qb_zT 117 σ (2 + 3 * k) s.2) (fun (x : Int32 × qa_S) => qb_zT 117 σ 23 x.2) 7 (by omega) ⟨rfl, z2⟩ ?_ ?_
        · rintro k ⟨s1, s2⟩ hk ⟨h1, h2⟩
          dsimp only at h1 h2
          subst h1
          unfold mc_159_99_117_p41
          dsimp only [qa_in]
          rw [if_pos (show nI k < (7 : Int32) from qb_ltT (b := 7) hk (by omega)), qb_n (k := k) (by omega)]
          have a1 := qb_stT (P := 117) (by decide) h2 (by omega) (qb_mK k hk)
          have a2 := qb_stT (P := 117) (A := 101) (j := k) (by decide) a1 (by omega) (show qb_pm (2 + 3 * k + 1) = _ from (by rw [show 2 + 3 * k + 1 = 3 + 3 * k by omega]; exact qb_mG k hk))
          have a3 := qb_stT (P := 117) (A := 103) (j := k) (by decide) a2 (by omega) (show qb_pm (2 + 3 * k + 1 + 1) = _ from (by rw [show 2 + 3 * k + 1 + 1 = 4 + 3 * k by omega]; exact qb_mS k hk))
          exact ⟨_, rfl, qb_s, a3⟩
        · rintro ⟨s1, s2⟩ ⟨h1, h2⟩
          dsimp only at h1 h2
          subst h1
          unfold mc_159_99_117_p41
          dsimp only [qa_in]
          rw [if_neg (show ¬ nI 7 < (7 : Int32) from qb_ltF (b := 7) (by omega) (by omega))]
          exact ⟨_, rfl, h2⟩
      · rintro k ⟨s1, s2⟩ hk ⟨h1, h2⟩
        dsimp only at h1 h2
        subst h1
        unfold mc_159_99_117_p103
        dsimp only [qa_in]
        rw [if_pos (show nI k < (28 : Int32) from qb_ltT (b := 28) hk (by omega)), qb_n (k := k) (by omega)]
        have a1 := qb_stT (P := 117) (A := 102) (j := k) (by decide) h2 (by omega) (show qb_pm (23 + k) = _ from (by have := qb_mM (k / 4) (by omega) (k % 4) (by omega); rw [show 23 + 4 * (k / 4) + k % 4 = 23 + k by omega, show 4 * (k / 4) + k % 4 = k by omega] at this; exact this))
        exact ⟨_, rfl, qb_s, a1⟩
      · rintro ⟨s1, s2⟩ ⟨h1, h2⟩
        dsimp only at h1 h2
        subst h1
        unfold mc_159_99_117_p103
        dsimp only [qa_in]
        rw [if_neg (show ¬ nI 28 < (28 : Int32) from qb_ltF (b := 28) (by omega) (by omega))]
        exact ⟨_, rfl, h2⟩
    · rintro k ⟨s1, s2⟩ hk ⟨h1, h2⟩
      dsimp only at h1 h2
      subst h1
      unfold mc_159_99_117_p133
      dsimp only [qa_in]
      rw [if_pos (show nI k < (6 : Int32) from qb_ltT (b := 6) hk (by omega)), qb_n (k := k) (by omega)]
      have a1 := qb_stT (P := 117) (by decide) h2 (by omega) (qb_mO k hk)
      have a2 := qb_stT (P := 117) (A := 105) (j := k) (by decide) a1 (by omega) (show qb_pm (51 + 3 * k + 1) = _ from (by rw [show 51 + 3 * k + 1 = 52 + 3 * k by omega]; exact qb_mB k hk))
      have a3 := qb_stT (P := 117) (A := 106) (j := k) (by decide) a2 (by omega) (show qb_pm (51 + 3 * k + 1 + 1) = _ from (by rw [show 51 + 3 * k + 1 + 1 = 53 + 3 * k by omega]; exact qb_mY k hk))
      exact ⟨_, rfl, qb_s, a3⟩
    · rintro ⟨s1, s2⟩ ⟨h1, h2⟩
      dsimp only at h1 h2
      subst h1
      unfold mc_159_99_117_p133
      dsimp only [qa_in]
      rw [if_neg (show ¬ nI 6 < (6 : Int32) from qb_ltF (b := 6) (by omega) (by omega))]
      exact ⟨_, rfl, h2⟩
  exact ⟨main.2.1, main.2.2⟩
theorem qb_159_117U {σ : qa_S} {N : Nat} (hN : 40 ≤ N) : (∀ i, i < 69 → qb_gm (ma_159_99_117 N 0 σ) i = σ 117 i) ∧ qb_F (fun a j => (100 ≤ a ∧ a ≤ 106) ∨ (a = 99 ∧ (j = 0 ∨ j = 5 ∨ (27 ≤ j ∧ j ≤ 29)))) σ (ma_159_99_117 N 0 σ) := by
  have main : qb_zU 117 σ 69 (ma_159_99_117 N 0 σ) := by
    unfold ma_159_99_117
    dsimp only [qa_in]
    have z0 : qb_zU 117 σ 0 (qa_u (qa_u (qa_u σ 99 29 (117 : Int32)) 99 28 0) 99 27 (0 : Int32)) := by
      refine ⟨⟨?_, ?_, ?_⟩, fun i hi => absurd hi (Nat.not_lt_zero _), fun a j h => ?_⟩
      · rw [qb_uN (by omega), qb_uN (by omega), qb_uE]; rfl
      · rw [qb_uN (by omega), qb_uE]
      · rw [qb_uE]; rfl
      · rw [qb_uN (by omega), qb_uN (by omega), qb_uN (by omega)]
    have z1 := qb_stU (P := 117) (by decide) z0 (by decide) qb_m0
    have z2 := qb_stU (P := 117) (by decide) z1 (by decide) qb_m1
    refine qb_l0 (fun (k : Nat) (s : Int32 × qa_S) => s.1 = nI k ∧ qb_zU 117 σ (51 + 3 * k) s.2) (fun (x : Int32 × qa_S) => qb_zU 117 σ 69 x.2) 6 (by omega) ⟨rfl, ?_⟩ ?_ ?_
    · refine qb_l0 (fun (k : Nat) (s : Int32 × qa_S) => s.1 = nI k ∧ qb_zU 117 σ (23 + k) s.2) (fun (x : Int32 × qa_S) => qb_zU 117 σ 51 x.2) 28 (by omega) ⟨rfl, ?_⟩ ?_ ?_
      · refine qb_l0 (fun (k : Nat) (s : Int32 × qa_S) => s.1 = nI k ∧ qb_zU 117 σ (2 + 3 * k) s.2) (fun (x : Int32 × qa_S) => qb_zU 117 σ 23 x.2) 7 (by omega) ⟨rfl, z2⟩ ?_ ?_
        · rintro k ⟨s1, s2⟩ hk ⟨h1, h2⟩
          dsimp only at h1 h2
          subst h1
          unfold mc_159_99_117_p41
          dsimp only [qa_in]
          rw [if_pos (show nI k < (7 : Int32) from qb_ltT (b := 7) hk (by omega)), qb_n (k := k) (by omega)]
          have a1 := qb_stU (P := 117) (by decide) h2 (by omega) (qb_mK k hk)
          have a2 := qb_stU (P := 117) (A := 101) (j := k) (by decide) a1 (by omega) (show qb_pm (2 + 3 * k + 1) = _ from (by rw [show 2 + 3 * k + 1 = 3 + 3 * k by omega]; exact qb_mG k hk))
          have a3 := qb_stU (P := 117) (A := 103) (j := k) (by decide) a2 (by omega) (show qb_pm (2 + 3 * k + 1 + 1) = _ from (by rw [show 2 + 3 * k + 1 + 1 = 4 + 3 * k by omega]; exact qb_mS k hk))
          exact ⟨_, rfl, qb_s, a3⟩
        · rintro ⟨s1, s2⟩ ⟨h1, h2⟩
          dsimp only at h1 h2
          subst h1
          unfold mc_159_99_117_p41
          dsimp only [qa_in]
          rw [if_neg (show ¬ nI 7 < (7 : Int32) from qb_ltF (b := 7) (by omega) (by omega))]
          exact ⟨_, rfl, h2⟩
      · rintro k ⟨s1, s2⟩ hk ⟨h1, h2⟩
        dsimp only at h1 h2
        subst h1
        unfold mc_159_99_117_p103
        dsimp only [qa_in]
        rw [if_pos (show nI k < (28 : Int32) from qb_ltT (b := 28) hk (by omega)), qb_n (k := k) (by omega)]
        have a1 := qb_stU (P := 117) (A := 102) (j := k) (by decide) h2 (by omega) (show qb_pm (23 + k) = _ from (by have := qb_mM (k / 4) (by omega) (k % 4) (by omega); rw [show 23 + 4 * (k / 4) + k % 4 = 23 + k by omega, show 4 * (k / 4) + k % 4 = k by omega] at this; exact this))
        exact ⟨_, rfl, qb_s, a1⟩
      · rintro ⟨s1, s2⟩ ⟨h1, h2⟩
        dsimp only at h1 h2
        subst h1
        unfold mc_159_99_117_p103
        dsimp only [qa_in]
        rw [if_neg (show ¬ nI 28 < (28 : Int32) from qb_ltF (b := 28) (by omega) (by omega))]
        exact ⟨_, rfl, h2⟩
    · rintro k ⟨s1, s2⟩ hk ⟨h1, h2⟩
      dsimp only at h1 h2
      subst h1
      unfold mc_159_99_117_p133
      dsimp only [qa_in]
      rw [if_pos (show nI k < (6 : Int32) from qb_ltT (b := 6) hk (by omega)), qb_n (k := k) (by omega)]
      have a1 := qb_stU (P := 117) (by decide) h2 (by omega) (qb_mO k hk)
      have a2 := qb_stU (P := 117) (A := 105) (j := k) (by decide) a1 (by omega) (show qb_pm (51 + 3 * k + 1) = _ from (by rw [show 51 + 3 * k + 1 = 52 + 3 * k by omega]; exact qb_mB k hk))
      have a3 := qb_stU (P := 117) (A := 106) (j := k) (by decide) a2 (by omega) (show qb_pm (51 + 3 * k + 1 + 1) = _ from (by rw [show 51 + 3 * k + 1 + 1 = 53 + 3 * k by omega]; exact qb_mY k hk))
      exact ⟨_, rfl, qb_s, a3⟩
    · rintro ⟨s1, s2⟩ ⟨h1, h2⟩
      dsimp only at h1 h2
      subst h1
      unfold mc_159_99_117_p133
      dsimp only [qa_in]
      rw [if_neg (show ¬ nI 6 < (6 : Int32) from qb_ltF (b := 6) (by omega) (by omega))]
      exact ⟨_, rfl, h2⟩
  exact ⟨main.2.1, main.2.2⟩
theorem qb_159_118T {σ : qa_S} {N : Nat} (hN : 40 ≤ N) : (∀ i, i < 69 → ma_159_99_118 N 1 σ 118 i = qb_gm σ i) ∧ qb_F (fun a j => a = 118 ∨ (a = 99 ∧ 27 ≤ j ∧ j ≤ 29)) σ (ma_159_99_118 N 1 σ) := by
  have main : qb_zT 118 σ 69 (ma_159_99_118 N 1 σ) := by
    unfold ma_159_99_118
    dsimp only [qa_in]
    have z0 : qb_zT 118 σ 0 (qa_u (qa_u (qa_u σ 99 29 (118 : Int32)) 99 28 1) 99 27 (0 : Int32)) := by
      refine ⟨⟨?_, ?_, ?_⟩, fun i hi => absurd hi (Nat.not_lt_zero _), fun a j h => ?_⟩
      · rw [qb_uN (by omega), qb_uN (by omega), qb_uE]; rfl
      · rw [qb_uN (by omega), qb_uE]
      · rw [qb_uE]; rfl
      · rw [qb_uN (by omega), qb_uN (by omega), qb_uN (by omega)]
    have z1 := qb_stT (P := 118) (by decide) z0 (by decide) qb_m0
    have z2 := qb_stT (P := 118) (by decide) z1 (by decide) qb_m1
    refine qb_l0 (fun (k : Nat) (s : Int32 × qa_S) => s.1 = nI k ∧ qb_zT 118 σ (51 + 3 * k) s.2) (fun (x : Int32 × qa_S) => qb_zT 118 σ 69 x.2) 6 (by omega) ⟨rfl, ?_⟩ ?_ ?_
    · refine qb_l0 (fun (k : Nat) (s : Int32 × qa_S) => s.1 = nI k ∧ qb_zT 118 σ (23 + k) s.2) (fun (x : Int32 × qa_S) => qb_zT 118 σ 51 x.2) 28 (by omega) ⟨rfl, ?_⟩ ?_ ?_
      · refine qb_l0 (fun (k : Nat) (s : Int32 × qa_S) => s.1 = nI k ∧ qb_zT 118 σ (2 + 3 * k) s.2) (fun (x : Int32 × qa_S) => qb_zT 118 σ 23 x.2) 7 (by omega) ⟨rfl, z2⟩ ?_ ?_
        · rintro k ⟨s1, s2⟩ hk ⟨h1, h2⟩
          dsimp only at h1 h2
          subst h1
          unfold mc_159_99_118_p41
          dsimp only [qa_in]
          rw [if_pos (show nI k < (7 : Int32) from qb_ltT (b := 7) hk (by omega)), qb_n (k := k) (by omega)]
          have a1 := qb_stT (P := 118) (by decide) h2 (by omega) (qb_mK k hk)
          have a2 := qb_stT (P := 118) (A := 101) (j := k) (by decide) a1 (by omega) (show qb_pm (2 + 3 * k + 1) = _ from (by rw [show 2 + 3 * k + 1 = 3 + 3 * k by omega]; exact qb_mG k hk))
          have a3 := qb_stT (P := 118) (A := 103) (j := k) (by decide) a2 (by omega) (show qb_pm (2 + 3 * k + 1 + 1) = _ from (by rw [show 2 + 3 * k + 1 + 1 = 4 + 3 * k by omega]; exact qb_mS k hk))
          exact ⟨_, rfl, qb_s, a3⟩
        · rintro ⟨s1, s2⟩ ⟨h1, h2⟩
          dsimp only at h1 h2
          subst h1
          unfold mc_159_99_118_p41
          dsimp only [qa_in]
          rw [if_neg (show ¬ nI 7 < (7 : Int32) from qb_ltF (b := 7) (by omega) (by omega))]
          exact ⟨_, rfl, h2⟩
      · rintro k ⟨s1, s2⟩ hk ⟨h1, h2⟩
        dsimp only at h1 h2
        subst h1
        unfold mc_159_99_118_p103
        dsimp only [qa_in]
        rw [if_pos (show nI k < (28 : Int32) from qb_ltT (b := 28) hk (by omega)), qb_n (k := k) (by omega)]
        have a1 := qb_stT (P := 118) (A := 102) (j := k) (by decide) h2 (by omega) (show qb_pm (23 + k) = _ from (by have := qb_mM (k / 4) (by omega) (k % 4) (by omega); rw [show 23 + 4 * (k / 4) + k % 4 = 23 + k by omega, show 4 * (k / 4) + k % 4 = k by omega] at this; exact this))
        exact ⟨_, rfl, qb_s, a1⟩
      · rintro ⟨s1, s2⟩ ⟨h1, h2⟩
        dsimp only at h1 h2
        subst h1
        unfold mc_159_99_118_p103
        dsimp only [qa_in]
        rw [if_neg (show ¬ nI 28 < (28 : Int32) from qb_ltF (b := 28) (by omega) (by omega))]
        exact ⟨_, rfl, h2⟩
    · rintro k ⟨s1, s2⟩ hk ⟨h1, h2⟩
      dsimp only at h1 h2
      subst h1
      unfold mc_159_99_118_p133
      dsimp only [qa_in]
      rw [if_pos (show nI k < (6 : Int32) from qb_ltT (b := 6) hk (by omega)), qb_n (k := k) (by omega)]
      have a1 := qb_stT (P := 118) (by decide) h2 (by omega) (qb_mO k hk)
      have a2 := qb_stT (P := 118) (A := 105) (j := k) (by decide) a1 (by omega) (show qb_pm (51 + 3 * k + 1) = _ from (by rw [show 51 + 3 * k + 1 = 52 + 3 * k by omega]; exact qb_mB k hk))
      have a3 := qb_stT (P := 118) (A := 106) (j := k) (by decide) a2 (by omega) (show qb_pm (51 + 3 * k + 1 + 1) = _ from (by rw [show 51 + 3 * k + 1 + 1 = 53 + 3 * k by omega]; exact qb_mY k hk))
      exact ⟨_, rfl, qb_s, a3⟩
    · rintro ⟨s1, s2⟩ ⟨h1, h2⟩
      dsimp only at h1 h2
      subst h1
      unfold mc_159_99_118_p133
      dsimp only [qa_in]
      rw [if_neg (show ¬ nI 6 < (6 : Int32) from qb_ltF (b := 6) (by omega) (by omega))]
      exact ⟨_, rfl, h2⟩
  exact ⟨main.2.1, main.2.2⟩
theorem qb_159_118U {σ : qa_S} {N : Nat} (hN : 40 ≤ N) : (∀ i, i < 69 → qb_gm (ma_159_99_118 N 0 σ) i = σ 118 i) ∧ qb_F (fun a j => (100 ≤ a ∧ a ≤ 106) ∨ (a = 99 ∧ (j = 0 ∨ j = 5 ∨ (27 ≤ j ∧ j ≤ 29)))) σ (ma_159_99_118 N 0 σ) := by
  have main : qb_zU 118 σ 69 (ma_159_99_118 N 0 σ) := by
    unfold ma_159_99_118
    dsimp only [qa_in]
    have z0 : qb_zU 118 σ 0 (qa_u (qa_u (qa_u σ 99 29 (118 : Int32)) 99 28 0) 99 27 (0 : Int32)) := by
      refine ⟨⟨?_, ?_, ?_⟩, fun i hi => absurd hi (Nat.not_lt_zero _), fun a j h => ?_⟩
      · rw [qb_uN (by omega), qb_uN (by omega), qb_uE]; rfl
      · rw [qb_uN (by omega), qb_uE]
      · rw [qb_uE]; rfl
      · rw [qb_uN (by omega), qb_uN (by omega), qb_uN (by omega)]
    have z1 := qb_stU (P := 118) (by decide) z0 (by decide) qb_m0
    have z2 := qb_stU (P := 118) (by decide) z1 (by decide) qb_m1
    refine qb_l0 (fun (k : Nat) (s : Int32 × qa_S) => s.1 = nI k ∧ qb_zU 118 σ (51 + 3 * k) s.2) (fun (x : Int32 × qa_S) => qb_zU 118 σ 69 x.2) 6 (by omega) ⟨rfl, ?_⟩ ?_ ?_
    · refine qb_l0 (fun (k : Nat) (s : Int32 × qa_S) => s.1 = nI k ∧ qb_zU 118 σ (23 + k) s.2) (fun (x : Int32 × qa_S) => qb_zU 118 σ 51 x.2) 28 (by omega) ⟨rfl, ?_⟩ ?_ ?_
      · refine qb_l0 (fun (k : Nat) (s : Int32 × qa_S) => s.1 = nI k ∧ qb_zU 118 σ (2 + 3 * k) s.2) (fun (x : Int32 × qa_S) => qb_zU 118 σ 23 x.2) 7 (by omega) ⟨rfl, z2⟩ ?_ ?_
        · rintro k ⟨s1, s2⟩ hk ⟨h1, h2⟩
          dsimp only at h1 h2
          subst h1
          unfold mc_159_99_118_p41
          dsimp only [qa_in]
          rw [if_pos (show nI k < (7 : Int32) from qb_ltT (b := 7) hk (by omega)), qb_n (k := k) (by omega)]
          have a1 := qb_stU (P := 118) (by decide) h2 (by omega) (qb_mK k hk)
          have a2 := qb_stU (P := 118) (A := 101) (j := k) (by decide) a1 (by omega) (show qb_pm (2 + 3 * k + 1) = _ from (by rw [show 2 + 3 * k + 1 = 3 + 3 * k by omega]; exact qb_mG k hk))
          have a3 := qb_stU (P := 118) (A := 103) (j := k) (by decide) a2 (by omega) (show qb_pm (2 + 3 * k + 1 + 1) = _ from (by rw [show 2 + 3 * k + 1 + 1 = 4 + 3 * k by omega]; exact qb_mS k hk))
          exact ⟨_, rfl, qb_s, a3⟩
        · rintro ⟨s1, s2⟩ ⟨h1, h2⟩
          dsimp only at h1 h2
          subst h1
          unfold mc_159_99_118_p41
          dsimp only [qa_in]
          rw [if_neg (show ¬ nI 7 < (7 : Int32) from qb_ltF (b := 7) (by omega) (by omega))]
          exact ⟨_, rfl, h2⟩
      · rintro k ⟨s1, s2⟩ hk ⟨h1, h2⟩
        dsimp only at h1 h2
        subst h1
        unfold mc_159_99_118_p103
        dsimp only [qa_in]
        rw [if_pos (show nI k < (28 : Int32) from qb_ltT (b := 28) hk (by omega)), qb_n (k := k) (by omega)]
        have a1 := qb_stU (P := 118) (A := 102) (j := k) (by decide) h2 (by omega) (show qb_pm (23 + k) = _ from (by have := qb_mM (k / 4) (by omega) (k % 4) (by omega); rw [show 23 + 4 * (k / 4) + k % 4 = 23 + k by omega, show 4 * (k / 4) + k % 4 = k by omega] at this; exact this))
        exact ⟨_, rfl, qb_s, a1⟩
      · rintro ⟨s1, s2⟩ ⟨h1, h2⟩
        dsimp only at h1 h2
        subst h1
        unfold mc_159_99_118_p103
        dsimp only [qa_in]
        rw [if_neg (show ¬ nI 28 < (28 : Int32) from qb_ltF (b := 28) (by omega) (by omega))]
        exact ⟨_, rfl, h2⟩
    · rintro k ⟨s1, s2⟩ hk ⟨h1, h2⟩
      dsimp only at h1 h2
      subst h1
      unfold mc_159_99_118_p133
      dsimp only [qa_in]
      rw [if_pos (show nI k < (6 : Int32) from qb_ltT (b := 6) hk (by omega)), qb_n (k := k) (by omega)]
      have a1 := qb_stU (P := 118) (by decide) h2 (by omega) (qb_mO k hk)
      have a2 := qb_stU (P := 118) (A := 105) (j := k) (by decide) a1 (by omega) (show qb_pm (51 + 3 * k + 1) = _ from (by rw [show 51 + 3 * k + 1 = 52 + 3 * k by omega]; exact qb_mB k hk))
      have a3 := qb_stU (P := 118) (A := 106) (j := k) (by decide) a2 (by omega) (show qb_pm (51 + 3 * k + 1 + 1) = _ from (by rw [show 51 + 3 * k + 1 + 1 = 53 + 3 * k by omega]; exact qb_mY k hk))
      exact ⟨_, rfl, qb_s, a3⟩
    · rintro ⟨s1, s2⟩ ⟨h1, h2⟩
      dsimp only at h1 h2
      subst h1
      unfold mc_159_99_118_p133
      dsimp only [qa_in]
      rw [if_neg (show ¬ nI 6 < (6 : Int32) from qb_ltF (b := 6) (by omega) (by omega))]
      exact ⟨_, rfl, h2⟩
  exact ⟨main.2.1, main.2.2⟩
theorem qb_159_120T {σ : qa_S} {N : Nat} (hN : 40 ≤ N) : (∀ i, i < 69 → ma_159_99_120 N 1 σ 120 i = qb_gm σ i) ∧ qb_F (fun a j => a = 120 ∨ (a = 99 ∧ 27 ≤ j ∧ j ≤ 29)) σ (ma_159_99_120 N 1 σ) := by
  have main : qb_zT 120 σ 69 (ma_159_99_120 N 1 σ) := by
    unfold ma_159_99_120
    dsimp only [qa_in]
    have z0 : qb_zT 120 σ 0 (qa_u (qa_u (qa_u σ 99 29 (120 : Int32)) 99 28 1) 99 27 (0 : Int32)) := by
      refine ⟨⟨?_, ?_, ?_⟩, fun i hi => absurd hi (Nat.not_lt_zero _), fun a j h => ?_⟩
      · rw [qb_uN (by omega), qb_uN (by omega), qb_uE]; rfl
      · rw [qb_uN (by omega), qb_uE]
      · rw [qb_uE]; rfl
      · rw [qb_uN (by omega), qb_uN (by omega), qb_uN (by omega)]
    have z1 := qb_stT (P := 120) (by decide) z0 (by decide) qb_m0
    have z2 := qb_stT (P := 120) (by decide) z1 (by decide) qb_m1
    refine qb_l0 (fun (k : Nat) (s : Int32 × qa_S) => s.1 = nI k ∧ qb_zT 120 σ (51 + 3 * k) s.2) (fun (x : Int32 × qa_S) => qb_zT 120 σ 69 x.2) 6 (by omega) ⟨rfl, ?_⟩ ?_ ?_
    · refine qb_l0 (fun (k : Nat) (s : Int32 × qa_S) => s.1 = nI k ∧ qb_zT 120 σ (23 + k) s.2) (fun (x : Int32 × qa_S) => qb_zT 120 σ 51 x.2) 28 (by omega) ⟨rfl, ?_⟩ ?_ ?_
      · refine qb_l0 (fun (k : Nat) (s : Int32 × qa_S) => s.1 = nI k ∧ qb_zT 120 σ (2 + 3 * k) s.2) (fun (x : Int32 × qa_S) => qb_zT 120 σ 23 x.2) 7 (by omega) ⟨rfl, z2⟩ ?_ ?_
        · rintro k ⟨s1, s2⟩ hk ⟨h1, h2⟩
          dsimp only at h1 h2
          subst h1
          unfold mc_159_99_120_p41
          dsimp only [qa_in]
          rw [if_pos (show nI k < (7 : Int32) from qb_ltT (b := 7) hk (by omega)), qb_n (k := k) (by omega)]
          have a1 := qb_stT (P := 120) (by decide) h2 (by omega) (qb_mK k hk)
          have a2 := qb_stT (P := 120) (A := 101) (j := k) (by decide) a1 (by omega) (show qb_pm (2 + 3 * k + 1) = _ from (by rw [show 2 + 3 * k + 1 = 3 + 3 * k by omega]; exact qb_mG k hk))
          have a3 := qb_stT (P := 120) (A := 103) (j := k) (by decide) a2 (by omega) (show qb_pm (2 + 3 * k + 1 + 1) = _ from (by rw [show 2 + 3 * k + 1 + 1 = 4 + 3 * k by omega]; exact qb_mS k hk))
          exact ⟨_, rfl, qb_s, a3⟩
        · rintro ⟨s1, s2⟩ ⟨h1, h2⟩
          dsimp only at h1 h2
          subst h1
          unfold mc_159_99_120_p41
          dsimp only [qa_in]
          rw [if_neg (show ¬ nI 7 < (7 : Int32) from qb_ltF (b := 7) (by omega) (by omega))]
          exact ⟨_, rfl, h2⟩
      · rintro k ⟨s1, s2⟩ hk ⟨h1, h2⟩
        dsimp only at h1 h2
        subst h1
        unfold mc_159_99_120_p103
        dsimp only [qa_in]
        rw [if_pos (show nI k < (28 : Int32) from qb_ltT (b := 28) hk (by omega)), qb_n (k := k) (by omega)]
        have a1 := qb_stT (P := 120) (A := 102) (j := k) (by decide) h2 (by omega) (show qb_pm (23 + k) = _ from (by have := qb_mM (k / 4) (by omega) (k % 4) (by omega); rw [show 23 + 4 * (k / 4) + k % 4 = 23 + k by omega, show 4 * (k / 4) + k % 4 = k by omega] at this; exact this))
        exact ⟨_, rfl, qb_s, a1⟩
      · rintro ⟨s1, s2⟩ ⟨h1, h2⟩
        dsimp only at h1 h2
        subst h1
        unfold mc_159_99_120_p103
        dsimp only [qa_in]
        rw [if_neg (show ¬ nI 28 < (28 : Int32) from qb_ltF (b := 28) (by omega) (by omega))]
        exact ⟨_, rfl, h2⟩
    · rintro k ⟨s1, s2⟩ hk ⟨h1, h2⟩
      dsimp only at h1 h2
      subst h1
      unfold mc_159_99_120_p133
      dsimp only [qa_in]
      rw [if_pos (show nI k < (6 : Int32) from qb_ltT (b := 6) hk (by omega)), qb_n (k := k) (by omega)]
      have a1 := qb_stT (P := 120) (by decide) h2 (by omega) (qb_mO k hk)
      have a2 := qb_stT (P := 120) (A := 105) (j := k) (by decide) a1 (by omega) (show qb_pm (51 + 3 * k + 1) = _ from (by rw [show 51 + 3 * k + 1 = 52 + 3 * k by omega]; exact qb_mB k hk))
      have a3 := qb_stT (P := 120) (A := 106) (j := k) (by decide) a2 (by omega) (show qb_pm (51 + 3 * k + 1 + 1) = _ from (by rw [show 51 + 3 * k + 1 + 1 = 53 + 3 * k by omega]; exact qb_mY k hk))
      exact ⟨_, rfl, qb_s, a3⟩
    · rintro ⟨s1, s2⟩ ⟨h1, h2⟩
      dsimp only at h1 h2
      subst h1
      unfold mc_159_99_120_p133
      dsimp only [qa_in]
      rw [if_neg (show ¬ nI 6 < (6 : Int32) from qb_ltF (b := 6) (by omega) (by omega))]
      exact ⟨_, rfl, h2⟩
  exact ⟨main.2.1, main.2.2⟩
theorem qb_159_120U {σ : qa_S} {N : Nat} (hN : 40 ≤ N) : (∀ i, i < 69 → qb_gm (ma_159_99_120 N 0 σ) i = σ 120 i) ∧ qb_F (fun a j => (100 ≤ a ∧ a ≤ 106) ∨ (a = 99 ∧ (j = 0 ∨ j = 5 ∨ (27 ≤ j ∧ j ≤ 29)))) σ (ma_159_99_120 N 0 σ) := by
  have main : qb_zU 120 σ 69 (ma_159_99_120 N 0 σ) := by
    unfold ma_159_99_120
    dsimp only [qa_in]
    have z0 : qb_zU 120 σ 0 (qa_u (qa_u (qa_u σ 99 29 (120 : Int32)) 99 28 0) 99 27 (0 : Int32)) := by
      refine ⟨⟨?_, ?_, ?_⟩, fun i hi => absurd hi (Nat.not_lt_zero _), fun a j h => ?_⟩
      · rw [qb_uN (by omega), qb_uN (by omega), qb_uE]; rfl
      · rw [qb_uN (by omega), qb_uE]
      · rw [qb_uE]; rfl
      · rw [qb_uN (by omega), qb_uN (by omega), qb_uN (by omega)]
    have z1 := qb_stU (P := 120) (by decide) z0 (by decide) qb_m0
    have z2 := qb_stU (P := 120) (by decide) z1 (by decide) qb_m1
    refine qb_l0 (fun (k : Nat) (s : Int32 × qa_S) => s.1 = nI k ∧ qb_zU 120 σ (51 + 3 * k) s.2) (fun (x : Int32 × qa_S) => qb_zU 120 σ 69 x.2) 6 (by omega) ⟨rfl, ?_⟩ ?_ ?_
    · refine qb_l0 (fun (k : Nat) (s : Int32 × qa_S) => s.1 = nI k ∧ qb_zU 120 σ (23 + k) s.2) (fun (x : Int32 × qa_S) => qb_zU 120 σ 51 x.2) 28 (by omega) ⟨rfl, ?_⟩ ?_ ?_
      · refine qb_l0 (fun (k : Nat) (s : Int32 × qa_S) => s.1 = nI k ∧ qb_zU 120 σ (2 + 3 * k) s.2) (fun (x : Int32 × qa_S) => qb_zU 120 σ 23 x.2) 7 (by omega) ⟨rfl, z2⟩ ?_ ?_
        · rintro k ⟨s1, s2⟩ hk ⟨h1, h2⟩
          dsimp only at h1 h2
          subst h1
          unfold mc_159_99_120_p41
          dsimp only [qa_in]
          rw [if_pos (show nI k < (7 : Int32) from qb_ltT (b := 7) hk (by omega)), qb_n (k := k) (by omega)]
          have a1 := qb_stU (P := 120) (by decide) h2 (by omega) (qb_mK k hk)
          have a2 := qb_stU (P := 120) (A := 101) (j := k) (by decide) a1 (by omega) (show qb_pm (2 + 3 * k + 1) = _ from (by rw [show 2 + 3 * k + 1 = 3 + 3 * k by omega]; exact qb_mG k hk))
          have a3 := qb_stU (P := 120) (A := 103) (j := k) (by decide) a2 (by omega) (show qb_pm (2 + 3 * k + 1 + 1) = _ from (by rw [show 2 + 3 * k + 1 + 1 = 4 + 3 * k by omega]; exact qb_mS k hk))
          exact ⟨_, rfl, qb_s, a3⟩
        · rintro ⟨s1, s2⟩ ⟨h1, h2⟩
          dsimp only at h1 h2
          subst h1
          unfold mc_159_99_120_p41
          dsimp only [qa_in]
          rw [if_neg (show ¬ nI 7 < (7 : Int32) from qb_ltF (b := 7) (by omega) (by omega))]
          exact ⟨_, rfl, h2⟩
      · rintro k ⟨s1, s2⟩ hk ⟨h1, h2⟩
        dsimp only at h1 h2
        subst h1
        unfold mc_159_99_120_p103
        dsimp only [qa_in]
        rw [if_pos (show nI k < (28 : Int32) from qb_ltT (b := 28) hk (by omega)), qb_n (k := k) (by omega)]
        have a1 := qb_stU (P := 120) (A := 102) (j := k) (by decide) h2 (by omega) (show qb_pm (23 + k) = _ from (by have := qb_mM (k / 4) (by omega) (k % 4) (by omega); rw [show 23 + 4 * (k / 4) + k % 4 = 23 + k by omega, show 4 * (k / 4) + k % 4 = k by omega] at this; exact this))
        exact ⟨_, rfl, qb_s, a1⟩
      · rintro ⟨s1, s2⟩ ⟨h1, h2⟩
        dsimp only at h1 h2
        subst h1
        unfold mc_159_99_120_p103
        dsimp only [qa_in]
        rw [if_neg (show ¬ nI 28 < (28 : Int32) from qb_ltF (b := 28) (by omega) (by omega))]
        exact ⟨_, rfl, h2⟩
    · rintro k ⟨s1, s2⟩ hk ⟨h1, h2⟩
      dsimp only at h1 h2
      subst h1
      unfold mc_159_99_120_p133
      dsimp only [qa_in]
      rw [if_pos (show nI k < (6 : Int32) from qb_ltT (b := 6) hk (by omega)), qb_n (k := k) (by omega)]
      have a1 := qb_stU (P := 120) (by decide) h2 (by omega) (qb_mO k hk)
      have a2 := qb_stU (P := 120) (A := 105) (j := k) (by decide) a1 (by omega) (show qb_pm (51 + 3 * k + 1) = _ from (by rw [show 51 + 3 * k + 1 = 52 + 3 * k by omega]; exact qb_mB k hk))
      have a3 := qb_stU (P := 120) (A := 106) (j := k) (by decide) a2 (by omega) (show qb_pm (51 + 3 * k + 1 + 1) = _ from (by rw [show 51 + 3 * k + 1 + 1 = 53 + 3 * k by omega]; exact qb_mY k hk))
      exact ⟨_, rfl, qb_s, a3⟩
    · rintro ⟨s1, s2⟩ ⟨h1, h2⟩
      dsimp only at h1 h2
      subst h1
      unfold mc_159_99_120_p133
      dsimp only [qa_in]
      rw [if_neg (show ¬ nI 6 < (6 : Int32) from qb_ltF (b := 6) (by omega) (by omega))]
      exact ⟨_, rfl, h2⟩
  exact ⟨main.2.1, main.2.2⟩
