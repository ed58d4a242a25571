/-! judge, two -/
section QD
variable {n t : Nat} {x s : Nat → Nat} {T : Nat → Nat → Nat} {o b : Nat → Nat} {σ τ : qa_S} {N : Nat}
def qs_jv (n : Nat) (s : Nat → Nat) (T : Nat → Nat → Nat) (m i : Nat) : Nat := if i = 0 then qs_gl n s T m else T (i - 1) m
def qs_jp (n : Nat) (s : Nat → Nat) (T : Nat → Nat → Nat) (m : Nat) (r : Nat → Nat) (i : Nat) : Prop := n < i ∨ ¬ r i = qs_jv n s T m i
theorem qs_45 {i m : Nat} (hN : 10 ≤ N) (hB : qv_B n t s T o b) (hC : qv_C n t s T o b σ) (hi : i ≤ n) (hm : m < 4) : (ma_45_3 N (nI i - 1) (nI m) σ).1 = nI (qs_jv n s T m i) := by
  have n7 := hB.1
  unfold ma_45_3 qs_jv
  by_cases z : i = 0
  · have e : nI 0 - 1 = -1 := by decide
    rw [if_pos z, z, e, if_pos ((qb_22 n7 hC.1).mpr (fun h => absurd h.1 (by decide)))]
    dsimp only [qa_in]
    rw [qb_n (k := m) (by omega), (qs_46 hN hB hC).1 m hm]
  · rw [if_neg z, show nI i - 1 = nI (i - 1) from qw_sub (b := 1) (by omega), if_neg (qw_22n n7 hC.1 (by omega)), qb_n (k := i - 1) (by omega), qb_n (k := m) (by omega)]
    exact hC.2.2.2.1 (i - 1) m (by omega) hm
theorem qs_45F {a c : Int32} (hN : 10 ≤ N) (hB : qv_B n t s T o b) (hC : qv_C n t s T o b σ) : qb_F (fun a _ => a = 94) σ (ma_45_3 N a c σ).2 := by
  unfold ma_45_3
  split
  · exact (qs_46 hN hB hC).2
  · exact qb_Fr
theorem qs_jvl {i m : Nat} (hB : qv_B n t s T o b) (hi : i ≤ n) (hm : m < 4) : qs_jv n s T m i < 1000000 := by
  unfold qs_jv
  by_cases z : i = 0
  · rw [if_pos z]; exact qs_gll hB hm
  · rw [if_neg z]; have := hB.2.2.2.1 (i - 1) m (by omega) hm; omega
theorem qc_141 {xx yy : Prop} (hN : 5000 ≤ N) (hI : qb_I xx yy σ) (hr : ∀ i, i < 12 → 0 ≤ (σ 92 i).toInt ∧ (σ 92 i).toInt ≤ 99) (x1 : Int32) : (ma_141_3 N x1 σ).1 = (ma_248_99 N x1 (ma_141_3 N x1 σ).2).1 := by
  obtain ⟨n, t, s, T, o, b, B, C, P⟩ := qv_get hI
  obtain ⟨k, r, k12, r99, rw1, rx1⟩ := qv_row hI hr
  have n7 := B.1
  rcases qw_m x1 with ⟨m1, m2⟩ | ⟨m, hm, rfl, m1, m2⟩
  · unfold ma_141_3 ma_248_99
    dsimp only [qa_in]
    rw [if_pos m1, if_pos m2, qb_9_1]; rfl
  have F1 : qb_F (fun a j => qb_sm2 a j ∨ (a = 3 ∧ j = 16)) σ (ma_141_3 N (nI m) σ).2 := by
    unfold ma_141_3
    rw [if_neg m1]
    dsimp only [qa_in]
    have h1 := mg_141_3_p18 (P := fun z => qb_F qb_sm2 σ z) (N := N) (n := N) (l1 := nI m) (s := (0, -9, σ)) qb_hw (qb_hm (by omega)) qb_Fr
    exact qb_Ft h1 (qb_Fu (w := fun a j => a = 3 ∧ j = 16) ⟨rfl, rfl⟩) (fun _ _ h => Or.inl h) (fun _ _ h => Or.inr h)
  suffices h : ∀ τ, qv_P n t s T o b (qa_u τ 99 9 0) → qv_rx k r (qa_u τ 99 9 0) → (ma_141_3 N (nI m) σ).1 = (ma_248_99 N (nI m) τ).1 from h _ (qv_PF (qb_Fu (w := fun a j => a = 99 ∧ j = 9) ⟨rfl, rfl⟩) (fun a j h c => by omega) (qv_PF F1 (fun a j h c => by unfold qb_sm2 qb_sc at c; omega) P)) (qv_rF (qb_Fu (w := fun a j => a = 99 ∧ j = 9) ⟨rfl, rfl⟩) (fun a j h c => by omega) (qv_rF F1 (fun a j h c => by unfold qb_sm2 qb_sc at c; omega) rx1))
  intro τ hP hR
  unfold ma_141_3 ma_248_99
  dsimp only [qa_in]
  rw [if_neg m1, if_neg m2]
  dsimp only
  have A : qw_st (qs_jp n s T m r) k (fun i => nI i) (-9) (qa_wh (fun s => s) (mc_141_3_p18 N (nI m)) N ((0 : Int32), (-9 : Int32), σ)).2.1 := by
    refine qb_lp (fun j (s0 : Int32 × Int32 × qa_S) => (∃ ρ, s0 = (nI j, -9, ρ) ∧ (qv_C n t s T o b ρ ∧ qv_rw k r ρ) ∧ ∀ i, i < j → ¬ qs_jp n s T m r i) ∨ (∃ i ρ, i < k ∧ qs_jp n s T m r i ∧ (∀ l, l < i → ¬ qs_jp n s T m r l) ∧ s0 = (nI j, nI i, ρ) ∧ ρ 3 16 = nI k)) (fun (z : Int32 × Int32 × qa_S) => qw_st (qs_jp n s T m r) k (fun i => nI i) (-9) z.2.1) k (fun j s0 hj hs => ?_) (fun s0 hs => ?_) N 0 _ (by omega) (by omega) (Or.inl ⟨σ, rfl, ⟨C, rw1⟩, fun i hi => by omega⟩)
    · rcases hs with ⟨ρ, rfl, ⟨Cρ, Rρ⟩, hp⟩ | ⟨i, ρ, i1, i2, i3, rfl, i4⟩
      · left
        have F2 := qs_45F (N := N) (a := nI j - 1) (c := nI m) (by omega) B Cρ
        have C2 := qv_CF F2 (fun a j h c => by omega) Cρ n7
        have R2 : qv_rw k r (ma_45_3 N (nI j - 1) (nI m) ρ).2 := ⟨(F2 _ _ (by omega)).trans Rρ.1, fun i hi => (F2 _ _ (by omega)).trans (Rρ.2 i hi)⟩
        unfold mc_141_3_p18
        dsimp only [qa_in]
        rw [if_pos (qw_ltT Rρ.1 hj (by omega)), if_pos rfl, qb_n (k := j) (by omega), qb_s]
        have rj := r99 j (by omega)
        by_cases c : n < j
        · have c' : ρ 4 0 < nI j := by rw [Cρ.1]; exact qb_ltT c (by omega)
          refine ⟨(nI (j + 1), nI j, ρ), ?_, Or.inr ⟨j, ρ, hj, Or.inl c, hp, rfl, Rρ.1⟩⟩
          simp only [if_pos c']
        · have c' : ¬ ρ 4 0 < nI j := by rw [Cρ.1]; exact qb_ltF (by omega) (by omega)
          have v := qs_45 (N := N) (i := j) (m := m) (by omega) B Cρ (by omega) hm
          have vl := qs_jvl (i := j) B (by omega) hm
          by_cases d : r j = qs_jv n s T m j
          · refine ⟨(nI (j + 1), -9, (ma_45_3 N (nI j - 1) (nI m) ρ).2), ?_, Or.inl ⟨_, rfl, ⟨C2, R2⟩, fun i hi => ?_⟩⟩
            · simp only [if_neg c', v, Rρ.2 j (by omega), d, if_pos rfl]
              rfl
            · by_cases e : i = j
              · subst e; exact fun h => h.elim c (fun h => h d)
              · exact hp i (by omega)
          · refine ⟨(nI (j + 1), nI j, (ma_45_3 N (nI j - 1) (nI m) ρ).2), ?_, Or.inr ⟨j, _, hj, Or.inr d, hp, rfl, R2.1⟩⟩
            have d' : ¬ nI (r j) = nI (qs_jv n s T m j) := fun e => d ((qb_eq (by omega) (by omega)).mp e)
            simp only [if_neg c', v, Rρ.2 j (by omega), if_neg d']
      · right
        unfold mc_141_3_p18
        dsimp only
        rw [if_pos (qw_ltT i4 hj (by omega)), if_neg (qw_n9 (by omega))]
        exact ⟨_, rfl, Or.inl ⟨i, i1, i2, i3, rfl⟩⟩
    · rcases hs with ⟨ρ, rfl, ⟨Cρ, Rρ⟩, hp⟩ | ⟨i, ρ, i1, i2, i3, rfl, i4⟩
      · unfold mc_141_3_p18
        dsimp only
        rw [if_neg (qw_ltF Rρ.1 (by omega))]
        exact ⟨_, rfl, Or.inr ⟨hp, rfl⟩⟩
      · unfold mc_141_3_p18
        dsimp only
        rw [if_neg (qw_ltF i4 (by omega))]
        exact ⟨_, rfl, Or.inl ⟨i, i1, i2, i3, rfl⟩⟩
  have P4 : qv_P n t s T o b (qa_u (qa_u τ 99 9 0) 99 35 0) := qv_PF (qb_Fu (w := fun a j => a = 99 ∧ j = 35) ⟨rfl, rfl⟩) (fun a j h c => by omega) hP
  obtain ⟨R, -, g2, F2⟩ := qs_180 (N := N) (by omega) B P4
  have row2 : ∀ i, i < 12 → ma_180_99 N (qa_u (qa_u τ 99 9 0) 99 35 0) 122 i = nI (r i) := fun i hi => by rw [F2 122 i (by omega), qb_uA (by omega)]; exact hR.2 i hi
  obtain ⟨ρ, eρ⟩ : ∃ ρ, ρ = ma_180_99 N (qa_u (qa_u τ 99 9 0) 99 35 0) := ⟨_, rfl⟩
  rw [← eρ] at R g2 row2 ⊢
  rw [hR.1]
  have D : qw_st (qs_jp n s T m r) k (fun i => nI i) (-9) (qa_cs (qa_wh (fun s => Sum.inr s) (mc_248_99_p34 N (nI m) (nI k) ρ) N 0) (fun b7 => (b7, ρ)) (fun b7 => (-9, ρ))).1 := by
    refine qw_lf (e := fun s => Sum.inr s) (step := mc_248_99_p34 N (nI m) (nI k) ρ) (qs_jp n s T m r) (fun k => nI k) (fun c => nI c) (-9) (fun z => (qa_cs z (fun b4 => (b4, ρ)) (fun b4 => ((-9 : Int32), ρ))).1) k (by omega) (fun j hj => ?_) ⟨_, by unfold mc_248_99_p34; rw [if_neg (qb_ltF (Nat.le_refl k) (by omega))], rfl⟩
    have rj := r99 j (by omega)
    unfold mc_248_99_p34
    rw [if_pos (qb_ltT hj (by omega)), qb_n (k := m) (by omega), qb_n (k := j) (by omega), row2 j (by omega), qb_s]
    by_cases c : n < j
    · exact Or.inr ⟨Or.inl c, _, by rw [if_pos (show ρ 99 0 < nI j by rw [R.1]; exact qb_ltT c (by omega))], rfl⟩
    · have v : (if nI j = 0 then ρ 109 m else ρ 108 (4 * nI j - 4 + nI m).toNatClampNeg) = nI (qs_jv n s T m j) := by
        unfold qs_jv
        by_cases z : j = 0
        · rw [if_pos ((qw_z (by omega)).mpr z), if_pos z, g2 m hm]
        · have ix : ∀ c, c < 7 → ∀ m, m < 4 → ((4 : Int32) * nI (c + 1) - 4 + nI m).toNatClampNeg = 4 * c + m := by decide
          have ij := ix (j - 1) (by omega) m hm
          rw [show j - 1 + 1 = j by omega] at ij
          rw [if_neg (fun e => z ((qw_z (by omega)).mp e)), if_neg z, ij, R.2.2.2.2 (j - 1) m (by omega) hm]
      have vl := qs_jvl (i := j) B (by omega) hm
      rw [if_neg (show ¬ ρ 99 0 < nI j by rw [R.1]; exact qb_ltF (by omega) (by omega)), v]
      by_cases d : r j = qs_jv n s T m j
      · exact Or.inl ⟨fun h => h.elim c (fun h => h d), by rw [if_pos (congrArg nI d.symm)]⟩
      · exact Or.inr ⟨Or.inr d, _, by rw [if_neg (fun e => d ((qb_eq (by omega) (by omega)).mp e).symm)], rfl⟩
  exact qw_stU A D (fun _ _ => Iff.rfl) (fun _ _ _ => rfl) rfl
end QD
