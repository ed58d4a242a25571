/-! WHO TELLS ALIKE; loner, like -/
theorem qs_cta {p : Nat → Bool} {a : Nat} : ∀ n, qw_f (fun k x => if p k then x + 1 else x) n a = a + qs_ct p n := by
  intro n
  induction n with
  | zero => rfl
  | succ n ih =>
    show (if p n then qw_f (fun k x => if p k then x + 1 else x) n a + 1 else qw_f (fun k x => if p k then x + 1 else x) n a) = a + (if p n then qs_ct p n + 1 else qs_ct p n)
    rw [ih]
    split <;> omega
section Q7
variable {n t : Nat} {s : Nat → Nat} {T : Nat → Nat → Nat} {o b : Nat → Nat} {σ τ : qa_S} {N : Nat}
/-! loner -/
theorem qw_m1 {x : Int32} (h : -1 < x) : ¬ x < 0 := fun c => by
  rw [Int32.lt_iff_toInt_lt] at h c
  rw [show (-1 : Int32).toInt = -1 by decide] at h
  rw [show (0 : Int32).toInt = 0 by decide] at c
  omega
theorem qc_137 {xx yy : Prop} (hN : 5000 ≤ N) (hI : qb_I xx yy σ) (x1 : Int32) : (ma_137_3 N x1 σ).1 = (ma_245_99 N x1 (ma_137_3 N x1 σ).2).1 := by
  obtain ⟨n, t, s, T, o, b, B, C, P⟩ := qv_get hI
  have F : qb_F qb_sm2 σ (ma_137_3 N x1 σ).2 := mf_137_3 qb_hw (qb_hm (by omega)) qb_Fr
  have P2 := qv_P2 F P
  obtain ⟨τ, eτ⟩ : ∃ τ, τ = (ma_137_3 N x1 σ).2 := ⟨_, rfl⟩
  rw [← eτ] at P2 ⊢
  have n7 := B.1
  have t6 := B.2.1
  unfold ma_137_3 ma_245_99
  dsimp only [qa_in]
  rcases qw_w x1 with ⟨w1, w2, -⟩ | ⟨-, w1, w2⟩
  · rw [if_pos w1, if_pos w2, qb_9_2]; rfl
  rw [if_neg w1, if_neg w2]
  have R := (qv_181 (N := N) (by omega) n7 P2).1
  obtain ⟨ρ, eρ⟩ : ∃ ρ, ρ = ma_181_99 N (qa_u τ 99 9 0) := ⟨_, rfl⟩
  rw [← eρ] at R ⊢
  have cl : ∀ c, c < n → qs_sm (fun k => qs_ct (fun i => qs_ap (o i) (b i) (T c) (T k)) t) n < 1000 := fun c hc => by
    have h := qs_sml (f := fun k => qs_ct (fun i => qs_ap (o i) (b i) (T c) (T k)) t) (n := n) (h := 6) (fun k _ => Nat.le_trans qs_ctl t6)
    omega
  have L1 : qa_wh (fun s => s) (mc_137_3_p22 N x1 σ) N ((0 : Int32), (-9 : Int32), (0 : Int32)) = (nI n, qw_f (fun c (a : Int32 × Int32) => (if a.1 = -9 then nI c else (if a.2 < nI (qs_sm (fun k => qs_ct (fun i => qs_ap (o i) (b i) (T c) (T k)) t) n) then nI c else a.1), if a.1 = -9 then nI (qs_sm (fun k => qs_ct (fun i => qs_ap (o i) (b i) (T c) (T k)) t) n) else (if a.2 < nI (qs_sm (fun k => qs_ct (fun i => qs_ap (o i) (b i) (T c) (T k)) t) n) then nI (qs_sm (fun k => qs_ct (fun i => qs_ap (o i) (b i) (T c) (T k)) t) n) else a.2))) n (-9, 0)) := by
    refine qw_lp (e := fun s => s) (fun k a => (nI k, a)) (fun a => (nI n, a)) (fun c (a : Int32 × Int32) => (if a.1 = -9 then nI c else (if a.2 < nI (qs_sm (fun k => qs_ct (fun i => qs_ap (o i) (b i) (T c) (T k)) t) n) then nI c else a.1), if a.1 = -9 then nI (qs_sm (fun k => qs_ct (fun i => qs_ap (o i) (b i) (T c) (T k)) t) n) else (if a.2 < nI (qs_sm (fun k => qs_ct (fun i => qs_ap (o i) (b i) (T c) (T k)) t) n) then nI (qs_sm (fun k => qs_ct (fun i => qs_ap (o i) (b i) (T c) (T k)) t) n) else a.2))) n (-9, 0) (by omega) (fun c a hc => ?_) (fun a => ?_)
    · have Z : ma_138_3 N (nI c) σ = nI (qs_sm (fun k => qs_ct (fun i => qs_ap (o i) (b i) (T c) (T k)) t) n) := by
        unfold ma_138_3
        dsimp only [qa_in]
        refine congrArg Prod.snd (qw_lp (e := fun s => s) (fun k (a : Nat) => (nI k, nI a)) (fun a => (nI n, nI a)) (fun k a => a + qs_ct (fun i => qs_ap (o i) (b i) (T c) (T k)) t) n 0 (by omega) (fun k a hk => ?_) (fun a => ?_))
        · unfold mc_138_3_p4
          dsimp only [qa_in]
          rw [C.1, if_pos (qb_ltT hk (by omega)), qb_n (k := c) (by omega), qb_n (k := k) (by omega), qs_99 (x := T c) (y := T k) (by omega) B C (fun m hm => ⟨C.2.2.2.1 c m hc hm, by have := B.2.2.2.1 c m hc hm; omega⟩) (fun m hm => ⟨C.2.2.2.1 k m hk hm, by have := B.2.2.2.1 k m hk hm; omega⟩), qb_s, qw_add]
        · unfold mc_138_3_p4
          dsimp only
          rw [C.1, if_neg (qb_ltF (Nat.le_refl n) (by omega))]
      unfold mc_137_3_p22
      dsimp only [qa_in]
      rw [C.1, if_pos (qb_ltT hc (by omega)), Z, qb_s]
    · unfold mc_137_3_p22
      dsimp only
      rw [C.1, if_neg (qb_ltF (Nat.le_refl n) (by omega))]
  have L2 : qa_wh (fun s => s) (mc_245_99_p34 N x1 ρ) N ((0 : Int32), (-9 : Int32), (-1 : Int32)) = (nI n, qw_f (fun c (a : Int32 × Int32) => (if a.2 < nI (qs_sm (fun k => qs_ct (fun i => qs_ap (o i) (b i) (T c) (T k)) t) n) then nI c else a.1, if a.2 < nI (qs_sm (fun k => qs_ct (fun i => qs_ap (o i) (b i) (T c) (T k)) t) n) then nI (qs_sm (fun k => qs_ct (fun i => qs_ap (o i) (b i) (T c) (T k)) t) n) else a.2)) n (-9, -1)) := by
    refine qw_lp (e := fun s => s) (fun k a => (nI k, a)) (fun a => (nI n, a)) (fun c (a : Int32 × Int32) => (if a.2 < nI (qs_sm (fun k => qs_ct (fun i => qs_ap (o i) (b i) (T c) (T k)) t) n) then nI c else a.1, if a.2 < nI (qs_sm (fun k => qs_ct (fun i => qs_ap (o i) (b i) (T c) (T k)) t) n) then nI (qs_sm (fun k => qs_ct (fun i => qs_ap (o i) (b i) (T c) (T k)) t) n) else a.2)) n (-9, -1) (by omega) (fun c a hc => ?_) (fun a => ?_)
    · have Z : qa_wh (fun s => s) (mc_245_99_p49 N x1 a.1 a.2 (nI c) ρ) N ((0 : Int32), (0 : Int32)) = (nI n, nI (qs_sm (fun k => qs_ct (fun i => qs_ap (o i) (b i) (T c) (T k)) t) n)) := by
        refine qw_lp (e := fun s => s) (fun k (a : Nat) => (nI k, nI a)) (fun a => (nI n, nI a)) (fun k a => a + qs_ct (fun i => qs_ap (o i) (b i) (T c) (T k)) t) n 0 (by omega) (fun k y hk => ?_) (fun y => ?_)
        · have Z2 : qa_wh (fun s => s) (mc_245_99_p61 N x1 a.1 a.2 (nI c) (nI k) ρ) N ((0 : Int32), nI y) = (nI t, nI (y + qs_ct (fun i => !(k == c) && qs_ap (o i) (b i) (T c) (T k)) t)) := by
            rw [← qs_cta]
            refine qw_lp (e := fun s => s) (fun k (a : Nat) => (nI k, nI a)) (fun a => (nI t, nI a)) (fun i x => if !(k == c) && qs_ap (o i) (b i) (T c) (T k) then x + 1 else x) t y (by omega) (fun i x hi => ?_) (fun x => ?_)
            · unfold mc_245_99_p61
              dsimp only [qa_in]
              rw [R.2.1, if_pos (qb_ltT hi (by omega)), qs_188 (by omega) B R (by omega) hc hk, qb_s]
              by_cases e : k = c
              · rw [e, if_pos rfl, beq_self_eq_true]
                exact congrArg (fun z => Sum.inl (nI (i + 1), z)) (Int32.add_zero _)
              · rw [if_neg (fun h => e ((qb_eq (by omega) (by omega)).mp h)), beq_eq_false_iff_ne.mpr e]
                cases qs_ap (o i) (b i) (T c) (T k)
                · exact congrArg (fun z => Sum.inl (nI (i + 1), z)) (Int32.add_zero _)
                · exact congrArg (fun z => Sum.inl (nI (i + 1), z)) qb_s
            · unfold mc_245_99_p61
              dsimp only
              rw [R.2.1, if_neg (qb_ltF (Nat.le_refl t) (by omega))]
          unfold mc_245_99_p49
          dsimp only [qa_in]
          rw [R.1, if_pos (qb_ltT hk (by omega)), Z2, qb_s]
          have e : qs_ct (fun i => !(k == c) && qs_ap (o i) (b i) (T c) (T k)) t = qs_ct (fun i => qs_ap (o i) (b i) (T c) (T k)) t := qs_ctx (fun i _ => by
            by_cases e : k = c
            · rw [e, qs_apr, Bool.and_false]
            · rw [beq_eq_false_iff_ne.mpr e]; rfl)
          rw [e]
        · unfold mc_245_99_p49
          dsimp only
          rw [R.1, if_neg (qb_ltF (Nat.le_refl n) (by omega))]
      unfold mc_245_99_p34
      dsimp only [qa_in]
      rw [R.1, if_pos (qb_ltT hc (by omega)), Z, qb_s]
    · unfold mc_245_99_p34
      dsimp only
      rw [R.1, if_neg (qb_ltF (Nat.le_refl n) (by omega))]
  rw [L1, L2]
  dsimp only
  rcases qs_max (fun c => nI c) (fun c => nI (qs_sm (fun k => qs_ct (fun i => qs_ap (o i) (b i) (T c) (T k)) t) n)) (n := n) (fun k hk => qw_n9 (by omega)) (fun k hk => by
    rw [Int32.lt_iff_toInt_lt, nI_toInt (by have := cl k hk; omega), show (-1 : Int32).toInt = -1 by decide]; omega) with ⟨e1, e2⟩ | ⟨e1, e2, e3⟩
  · rw [e1, e2]
    rfl
  · rw [e1, if_neg (qw_m1 e3)]
end Q7
