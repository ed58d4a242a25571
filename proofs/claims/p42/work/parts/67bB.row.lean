/-! substitutes; the row: two, impostor -/
section QB
variable {n t : Nat} {x s : Nat → Nat} {T : Nat → Nat → Nat} {o b : Nat → Nat} {σ τ : qa_S} {N : Nat}
theorem qv_Vu {c v : Nat} (hV : qv_V n t x s T o b σ) : qv_V n t x (qs_up s c v) T o b (qa_u σ 7 c (nI v)) := by
  obtain ⟨C, g⟩ := hV
  have F0 : qb_F (fun a _ => a = 7) σ (qa_u σ 7 c (nI v)) := qb_Fu rfl
  refine ⟨⟨(F0 _ _ (by omega)).trans C.1, (F0 _ _ (by omega)).trans C.2.1, fun k hk => ?_, fun k m hk hm => (F0 _ _ (by omega)).trans (C.2.2.2.1 k m hk hm), fun i hi => ⟨(F0 _ _ (by omega)).trans (C.2.2.2.2 i hi).1, (F0 _ _ (by omega)).trans (C.2.2.2.2 i hi).2⟩⟩, fun m hm => ⟨(F0 _ _ (by omega)).trans (g m hm).1, (g m hm).2⟩⟩
  rw [qb_uJ]
  unfold qs_up
  by_cases e : k = c
  · rw [if_pos e, e, beq_self_eq_true]; rfl
  · rw [if_neg e, beq_eq_false_iff_ne.mpr e]; exact C.2.2.1 k hk
theorem qv_Bs {c v : Nat} (hB : qv_B n t s T o b) (hv : v ≤ 9) : qv_B n t (qs_up s c v) T o b := ⟨hB.1, hB.2.1, fun k hk => by unfold qs_up; have := hB.2.2.1 k hk; split <;> omega, hB.2.2.2.1, hB.2.2.2.2⟩
theorem qs_upe {c v : Nat} : qs_up s c v c = v := by unfold qs_up; rw [beq_self_eq_true]; rfl
theorem qs_upn {c v k : Nat} (h : k ≠ c) : qs_up s c v k = s k := by unfold qs_up; rw [beq_eq_false_iff_ne.mpr h]; rfl
theorem qc_128 {xx yy : Prop} (hN : 5000 ≤ N) (hI : qb_I xx yy σ) (x1 : Int32) : (ma_128_3 N x1 σ).1 = (ma_238_99 N x1 (ma_128_3 N x1 σ).2).1 := by
  obtain ⟨n, t, s, T, o, b, B, C, P⟩ := qv_get hI
  have F : qb_F qb_sm2 σ (ma_128_3 N x1 σ).2 := qe_128 (by omega)
  suffices h : ∀ τ, qv_P n t s T o b (qa_u τ 99 9 0) → (ma_128_3 N x1 σ).1 = (ma_238_99 N x1 τ).1 from h _ (qv_P2 F P)
  intro τ hP
  have n7 := B.1
  have t6 := B.2.1
  unfold ma_128_3 ma_238_99
  dsimp only [qa_in]
  rcases qw_c n7 x1 with ⟨g1, g2⟩ | ⟨u, hu, rfl, g1, g2⟩
  · have e : (if ma_163_99 x1 (qa_u τ 99 9 0) = 0 then (-1 : Int32) else if qa_u τ 99 9 0 103 x1.toNatClampNeg = 0 then -3 else 0) = -1 := if_pos (g2 _ hP.1)
    rw [if_pos (g1 σ C.1), qb_9_1, e, if_pos (by decide)]; rfl
  rw [if_neg (g1 σ C.1), qb_n (k := u) (by omega), C.2.2.1 u (by omega)]
  have s9 := B.2.2.1 u (by omega)
  by_cases z : s u = 0
  · have e : (if ma_163_99 (nI u) (qa_u τ 99 9 0) = 0 then (-1 : Int32) else if qa_u τ 99 9 0 103 u = 0 then -3 else 0) = -3 := by rw [if_neg (g2 _ hP.1), hP.2.2.1 u (by omega), z]; rfl
    rw [if_pos ((qw_z (by omega)).mpr z), qb_9_3, e, if_pos (by decide)]; rfl
  have e : (if ma_163_99 (nI u) (qa_u τ 99 9 0) = 0 then (-1 : Int32) else if qa_u τ 99 9 0 103 u = 0 then -3 else 0) = 0 := by rw [if_neg (g2 _ hP.1), hP.2.2.1 u (by omega), if_neg (fun e => z ((qw_z (by omega)).mp e))]
  rw [if_neg (fun e => z ((qw_z (by omega)).mp e)), e, if_neg (by decide)]
  dsimp only
  have V0 : qv_V n t (qs_gl n s T) (qs_up s u 0) T o b (qa_u (ma_46_3 N σ) 7 u 0) := qv_Vu (v := 0) (qv_V0 (N := N) (by omega) B C)
  have W0 := qv_W0 (N := N) (by omega) B hP
  have B' := qv_Bs (c := u) (v := 0) B (by omega)
  obtain ⟨v, ev⟩ : ∃ v : Nat → Nat, v = fun k => if 9 < qs_up s u 0 k + s u then 9 else qs_up s u 0 k + s u := ⟨_, rfl⟩
  have v9 : ∀ k, v k ≤ 9 := fun k => by rw [ev]; dsimp only; split <;> omega
  have A : ∃ m, qa_wh (fun s => s) (mc_128_3_p57 N (nI u) (nI (s u))) N ((0 : Int32), (0 : Int32), qa_u (ma_46_3 N σ) 7 u 0) = (nI n, qw_f (fun k a => if k == u then a else if qs_D n t (qs_gl n s T) (qs_up s u 0) T o b k (v k) = 0 then a ||| ((1 : Int32) <<< (nI k &&& 31)) else a) n 0, m) ∧ qv_V n t (qs_gl n s T) (qs_up s u 0) T o b m := by
    refine qw_lm (e := fun s => s) (step := mc_128_3_p57 N (nI u) (nI (s u))) (fun m => qv_V n t (qs_gl n s T) (qs_up s u 0) T o b m) (fun k (a : Int32) m => (nI k, a, m)) (fun a m => (nI n, a, m)) (fun k a => if k == u then a else if qs_D n t (qs_gl n s T) (qs_up s u 0) T o b k (v k) = 0 then a ||| ((1 : Int32) <<< (nI k &&& 31)) else a) n 0 _ (by omega) V0 (fun k a m hk hm => ?_) (fun a m hm => ?_)
    · have k9 := B'.2.2.1 k (by omega)
      have ek : ma_71 (m 7 k + nI (s u)) 9 = nI (v k) := by
        unfold ma_71
        rw [hm.1.2.2.1 k (by omega), qw_add, ev]
        dsimp only
        by_cases h : 9 < qs_up s u 0 k + s u
        · rw [if_pos (show (9 : Int32) < nI _ from qb_ltT (a := 9) h (by omega)), if_pos h]; rfl
        · rw [if_neg (show ¬ (9 : Int32) < nI _ from qb_ltF (a := 9) (by omega) (by omega)), if_neg h]
      obtain ⟨h1, h2⟩ := qv_117 (N := N) (by omega) B' hm hk (v9 k)
      have D6 := qs_Dl (n := n) (t := t) (x := qs_gl n s T) (s := qs_up s u 0) (T := T) (o := o) (b := b) (c := k) (v := v k)
      refine ⟨if nI k = nI u then m else ma_117_3 N (nI k) (nI (v k)) m, ?_, ?_⟩
      · unfold mc_128_3_p57
        dsimp only [qa_in]
        rw [if_pos (qw_ltT hm.1.1 hk (by omega)), qb_n (k := k) (by omega), ek, h1, qb_s]
        by_cases c : k = u
        · have c' : (k == u) = true := by rw [c, beq_self_eq_true]
          simp only [if_pos (congrArg nI c), if_pos c']
        · have c' : ¬ nI k = nI u := fun e => c ((qb_eq (by omega) (by omega)).mp e)
          simp only [if_neg c', beq_eq_false_iff_ne.mpr c, Bool.false_eq_true, ↓reduceIte]
          by_cases d : qs_D n t (qs_gl n s T) (qs_up s u 0) T o b k (v k) = 0
          · rw [if_pos ((qw_z (by omega)).mpr d), if_pos d]
          · rw [if_neg (fun e => d ((qw_z (by omega)).mp e)), if_neg d]
      · split
        · exact hm
        · exact h2
    · unfold mc_128_3_p57
      dsimp only
      rw [if_neg (qw_ltF hm.1.1 (by omega))]
      exact ⟨m, rfl, hm⟩
  have D : ∃ m, qa_wh (fun s => s) (mc_238_99_p52 N (nI u)) N ((0 : Int32), (0 : Int32), ma_180_99 N (qa_u τ 99 9 0)) = (nI n, qw_f (fun k a => if k == u then a else if qs_D n t (qs_gl n s T) (qs_up s u 0) T o b k (v k) = 0 then a ||| ((1 : Int32) <<< (nI k &&& 31)) else a) n 0, m) ∧ qv_W n t (qs_gl n s T) s T o b m := by
    refine qw_lm (e := fun s => s) (step := mc_238_99_p52 N (nI u)) (fun m => qv_W n t (qs_gl n s T) s T o b m) (fun k (a : Int32) m => (nI k, a, m)) (fun a m => (nI n, a, m)) (fun k a => if k == u then a else if qs_D n t (qs_gl n s T) (qs_up s u 0) T o b k (v k) = 0 then a ||| ((1 : Int32) <<< (nI k &&& 31)) else a) n 0 _ (by omega) W0 (fun k a m hk hm => ?_) (fun a m hm => ?_)
    · by_cases c : k = u
      · refine ⟨m, ?_, hm⟩
        unfold mc_238_99_p52
        dsimp only [qa_in]
        rw [if_pos (qw_ltT hm.1.1 hk (by omega)), qb_s]
        have c' : (k == u) = true := by rw [c, beq_self_eq_true]
        simp only [if_pos (congrArg nI c), if_pos c']
      · have c' : ¬ nI k = nI u := fun e => c ((qb_eq (by omega) (by omega)).mp e)
        obtain ⟨R, g, h⟩ := hm
        have k9 := B.2.2.1 k (by omega)
        have ek : (if 9 < m 103 k + m 103 u then (9 : Int32) else m 103 k + m 103 u) = nI (v k) := by
          rw [R.2.2.1 k (by omega), R.2.2.1 u (by omega), qw_add, ev]
          dsimp only
          rw [qs_upn c]
          by_cases h : 9 < s k + s u
          · rw [if_pos (show (9 : Int32) < nI _ from qb_ltT (a := 9) h (by omega)), if_pos h]; rfl
          · rw [if_neg (show ¬ (9 : Int32) < nI _ from qb_ltF (a := 9) (by omega) (by omega)), if_neg h]
        have F0 : qb_F (fun a _ => a = 110) m (qa_u (qa_u m 110 u 0) 110 k (nI (v k))) := fun a j h => by rw [qb_uA (by omega), qb_uA (by omega)]
        have R0 := qv_RF F0 (fun a j h c => by omega) R
        obtain ⟨h1, F1⟩ := qs_218 (N := N) (x := qs_gl n s T) (r := qs_up (qs_up s u 0) k (v k)) (by omega) B R0 (fun m hm => ⟨(F0 109 m (by omega)).trans (g m hm).1, (g m hm).2⟩) (fun j hj => ⟨by
          rw [qb_uJ]
          by_cases e : j = k
          · rw [if_pos e, e, qs_upe]
          · rw [if_neg e, qs_upn e, qb_uJ]
            by_cases e2 : j = u
            · rw [if_pos e2, e2, qs_upe]; rfl
            · rw [if_neg e2, qs_upn e2]; exact h j hj, by
          have := (qv_Bs (c := k) (v := v k) B' (v9 k)).2.2.1 j (by omega); omega⟩)
        obtain ⟨ρ, eρ⟩ : ∃ ρ, ρ = ma_218_99 N (qa_u (qa_u m 110 u 0) 110 k (nI (v k))) := ⟨_, rfl⟩
        rw [← eρ] at h1 F1
        have h1' : ρ.1 = nI (qs_D n t (qs_gl n s T) (qs_up s u 0) T o b k (v k)) := h1
        have R1 := qv_RF F1 (fun a j h c => by omega) R0
        have D6 := qs_Dl (n := n) (t := t) (x := qs_gl n s T) (s := qs_up s u 0) (T := T) (o := o) (b := b) (c := k) (v := v k)
        refine ⟨qa_u (qa_u ρ.2 110 u (ρ.2 103 u)) 110 k (qa_u ρ.2 110 u (ρ.2 103 u) 103 k), ?_, ?_⟩
        · unfold mc_238_99_p52
          dsimp only [qa_in]
          rw [if_pos (qw_ltT R.1 hk (by omega)), qb_n (k := k) (by omega), qb_n (k := u) (by omega), ek, ← eρ, h1', qb_s]
          simp only [if_neg c', beq_eq_false_iff_ne.mpr c, Bool.false_eq_true, ↓reduceIte]
          by_cases d : qs_D n t (qs_gl n s T) (qs_up s u 0) T o b k (v k) = 0
          · rw [if_pos ((qw_z (by omega)).mpr d), if_pos d]
          · rw [if_neg (fun e => d ((qw_z (by omega)).mp e)), if_neg d, Int32.or_zero]
        · have F2 : qb_F (fun a _ => a = 110) ρ.2 (qa_u (qa_u ρ.2 110 u (ρ.2 103 u)) 110 k (qa_u ρ.2 110 u (ρ.2 103 u) 103 k)) := fun a j h => by rw [qb_uA (by omega), qb_uA (by omega)]
          refine ⟨qv_RF F2 (fun a j h c => by omega) R1, fun j hj => ⟨?_, (g j hj).2⟩, fun j hj => ?_⟩
          · rw [F2 109 j (by omega), F1 109 j (by omega), F0 109 j (by omega)]; exact (g j hj).1
          · rw [qb_uJ]
            by_cases e : j = k
            · rw [if_pos e, e, qb_uA (by omega)]; exact R1.2.2.1 k (by omega)
            · rw [if_neg e, qb_uJ]
              by_cases e2 : j = u
              · rw [if_pos e2, e2]; exact R1.2.2.1 u (by omega)
              · rw [if_neg e2, F1 110 j (by omega), qb_uN (Or.inr e), qb_uN (Or.inr e2)]; exact h j hj
    · unfold mc_238_99_p52
      dsimp only
      rw [if_neg (qw_ltF hm.1.1 (by omega))]
      exact ⟨m, rfl, hm⟩
  obtain ⟨m1, e1, -⟩ := A
  obtain ⟨m2, e2, -⟩ := D
  rw [e1, e2]
end QB
