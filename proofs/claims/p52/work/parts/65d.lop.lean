/-! the reference reads all statements -/
section W65D
variable {X : Nat → Int32} {n : Nat} {σ : qa_S}
/-- s statements are read, at the places P -/
def qd_C (X : Nat → Int32) (n : Nat) (σ : qa_S) (P : Nat → Nat) (s : Nat) : Prop := P 0 = 0 ∧ ∀ i, i < s → q9d_e X n (P i) = none ∧ P (i + 1) = P i + 1 + q9a_lb (X (P i)).toInt ∧ P i < n ∧ σ 114 i = nI (P i) ∧ σ 115 i = X (P i) ∧ qd_V X σ (P i) (3 * i)
def qd_R (X : Nat → Int32) (n : Nat) (o : Option Nat) (τ : qa_S) : Prop := match o with
  | some p => qd_S X n τ p true
  | none => qd_S X n τ n false ∧ ∃ s P, 1 ≤ s ∧ 4 * s ≤ n ∧ τ 99 20 = nI s ∧ qd_C X n τ P s ∧ P s = n
theorem qd_153l {N0 : Nat} (hN0 : 5000 ≤ N0) (hn : n ≤ 96) : ∀ (d s a N : Nat) (σ : qa_S) (P : Nat → Nat), (n - a) + (if s = 0 then 1 else 0) ≤ d → d < N → qd_S X n σ a false → σ 99 20 = nI s → 4 * s ≤ a → (s = 0 → a = 0) → qd_C X n σ P s → P s = a → qd_R X n (q9a_w (fun i => (X i).toInt) (n - a) a 0) (qa_wh (fun s => s) (mc_153_99_p20 N0) N σ) ∧ qb_F (fun a j => (a = 99 ∧ (j = 18 ∨ j = 19 ∨ j = 20)) ∨ (114 ≤ a ∧ a ≤ 116)) σ (qa_wh (fun s => s) (mc_153_99_p20 N0) N σ) := by
  intro d
  induction d with
  | zero =>
    intro s a N σ P hd hN hS h20 h4 hs hC hP
    have s5 := hS.2.2.2.2
    have hs0 : s ≠ 0 := fun c => by rw [if_pos c] at hd; omega
    rw [if_neg hs0] at hd
    obtain ⟨N, rfl⟩ : ∃ m, N = m + 1 := ⟨N - 1, by omega⟩
    have ea : a = n := by omega
    subst ea
    rw [qa_whr (b := σ) (by
      unfold mc_153_99_p20
      rw [if_pos (show σ 99 19 = 0 from hS.2.2.2.1), if_neg (by rw [h20]; exact qb_ne0 hs0 (by omega)), if_neg (by rw [hS.2.2.1, hS.1]; exact qb_ltF (by omega) (by omega))])]
    refine ⟨?_, qb_Fr⟩
    rw [Nat.sub_self, show q9a_w (fun i => (X i).toInt) 0 a 0 = none from if_pos ⟨rfl, by omega⟩]
    exact ⟨hS, s, P, by omega, h4, h20, hC, hP⟩
  | succ d ih =>
    intro s a N σ P hd hN hS h20 h4 hs hC hP
    have s5 := hS.2.2.2.2
    obtain ⟨N, rfl⟩ : ∃ m, N = m + 1 := ⟨N - 1, by omega⟩
    by_cases hx : s ≠ 0 ∧ a = n
    · obtain ⟨hs0, ea⟩ := hx
      subst ea
      rw [qa_whr (b := σ) (by
        unfold mc_153_99_p20
        rw [if_pos (show σ 99 19 = 0 from hS.2.2.2.1), if_neg (by rw [h20]; exact qb_ne0 hs0 (by omega)), if_neg (by rw [hS.2.2.1, hS.1]; exact qb_ltF (by omega) (by omega))])]
      refine ⟨?_, qb_Fr⟩
      rw [Nat.sub_self, show q9a_w (fun i => (X i).toInt) 0 a 0 = none from if_pos ⟨rfl, by omega⟩]
      exact ⟨hS, s, P, by omega, h4, h20, hC, hP⟩
    · have hst : mc_153_99_p20 N0 σ = .inl (ma_154_99 N0 σ) := by
        unfold mc_153_99_p20
        rw [if_pos (show σ 99 19 = 0 from hS.2.2.2.1)]
        by_cases h0 : s = 0
        · rw [if_pos (by rw [h20, h0]; rfl)]; rfl
        · rw [if_neg (by rw [h20]; exact qb_ne0 h0 (by omega)), if_pos (by rw [hS.2.2.1, hS.1]; exact qb_ltT (by omega) (by omega))]; rfl
      rw [qa_whl hst]
      obtain ⟨r1, r2, r3, r4, r5, r6, r7⟩ := qd_154 (X := X) (n := n) (N := N0) (a := a) (s := s) hN0 hn (by omega) h20 hS
      cases he : q9d_e X n a with
      | some p =>
        have hw : q9a_w (fun i => (X i).toInt) (n - a) a 0 = some p := by
          by_cases h : a < n
          · rw [q9d_st h, he]
          · have ea : a = 0 := by
              by_cases h0 : s = 0
              · exact hs h0
              · exact absurd ⟨h0, by omega⟩ hx
            have en : n = 0 := by omega
            subst ea en
            rw [q9d_0.2] at he
            rw [← he]
            exact q9d_0.1
        rw [hw]
        have S1 := r1 p he
        refine ⟨?_, ?_⟩
        · obtain ⟨N, rfl⟩ : ∃ m, N = m + 1 := ⟨N - 1, by omega⟩
          rw [qa_whr (b := ma_154_99 N0 σ) (by unfold mc_153_99_p20; rw [if_neg (by rw [S1.2.2.2.1]; decide)])]
          exact S1
        · obtain ⟨N, rfl⟩ : ∃ m, N = m + 1 := ⟨N - 1, by omega⟩
          rw [qa_whr (b := ma_154_99 N0 σ) (by unfold mc_153_99_p20; rw [if_neg (by rw [S1.2.2.2.1]; decide)])]
          exact qb_Fw r6 (fun _ _ h => by omega)
      | none =>
        obtain ⟨han, S1, V1⟩ := r2 he
        obtain ⟨l3, l4⟩ := q9f_e han he
        have hw : q9a_w (fun i => (X i).toInt) (n - a) a 0 = q9a_w (fun i => (X i).toInt) (n - (a + 1 + q9a_lb (X a).toInt)) (a + 1 + q9a_lb (X a).toInt) 0 := by rw [q9d_st han, he]
        rw [hw]
        have hC' : qd_C X n (ma_154_99 N0 σ) (fun i => if i ≤ s then P i else a + 1 + q9a_lb (X a).toInt) (s + 1) := by
          refine ⟨(if_pos (Nat.zero_le _)).trans hC.1, fun i hi => ?_⟩
          dsimp only
          by_cases e : i = s
          · subst e
            rw [if_pos (Nat.le_refl _), if_neg (by omega), hP]
            refine ⟨he, rfl, han, r4, ?_, V1⟩
            rw [r5]; exact if_pos han
          · rw [if_pos (by omega), if_pos (by omega)]
            obtain ⟨c1, c2, c3, c4, c5, c6⟩ := hC.2 i (by omega)
            refine ⟨c1, c2, c3, by rw [r6 114 i (by omega)]; exact c4, by rw [r6 115 i (by omega)]; exact c5, ?_⟩
            unfold qd_V
            rw [r7 (3 * i) (by omega), r7 (3 * i + 1) (by omega), r7 (3 * i + 2) (by omega)]
            exact c6
        obtain ⟨g1, g2⟩ := ih (s + 1) (a + 1 + q9a_lb (X a).toInt) N (ma_154_99 N0 σ) _ (by rw [if_neg (by omega)]; omega) (by omega) S1 r3 (by omega) (by omega) hC' (by rw [if_neg (by omega)])
        exact ⟨g1, qb_Ft r6 g2 (fun _ _ h => by omega) (fun _ _ h => h)⟩
theorem qd_153 {N : Nat} (hN : 5000 ≤ N) (hn : n ≤ 96) (hS : qd_S X n σ 0 false) (h20 : σ 99 20 = 0) : qd_R X n (q9a_w (fun i => (X i).toInt) n 0 0) (qa_wh (fun s => s) (mc_153_99_p20 N) N σ) ∧ qb_F (fun a j => (a = 99 ∧ (j = 18 ∨ j = 19 ∨ j = 20)) ∨ (114 ≤ a ∧ a ≤ 116)) σ (qa_wh (fun s => s) (mc_153_99_p20 N) N σ) := by
  have := qd_153l (X := X) (N0 := N) hN hn (n + 1) 0 0 N σ (fun _ => 0) (by rw [if_pos rfl]; omega) (by omega) hS h20 (by omega) (fun _ => rfl) ⟨rfl, fun i hi => absurd hi (Nat.not_lt_zero _)⟩ rfl
  exact this
end W65D
