/-! CALLS BY GLASSES: fits, sure, claim, drops -/
section QN
variable {n t : Nat} {x s : Nat → Nat} {T : Nat → Nat → Nat} {o b : Nat → Nat} {σ τ : qa_S} {N : Nat}
theorem qk_72i (h : σ 3 18 = 0) : ma_72_3 N σ = σ := by
  unfold ma_72_3
  dsimp only [qa_in]
  rw [if_pos h]
/-- aimed, all glasses mixed -/
def qs_Z (n t : Nat) (s : Nat → Nat) (T : Nat → Nat → Nat) (o b x : Nat → Nat) (w : Nat) (τ : qa_S) : Prop := qv_C n t s T o b τ ∧ qs_V n T τ ∧ qs_W (qs_lo t w o b x) (qs_hi t w o b x) τ ∧ qk_M τ ∧ τ 3 18 = 0
def qs_Zw (a j : Nat) : Prop := a = 81 ∨ a = 82 ∨ a = 94 ∨ (a = 3 ∧ j = 18) ∨ a = 73 ∨ (75 ≤ a ∧ a ≤ 79)
theorem qs_ax {w a2 : Nat} (hN : 5000 ≤ N) (hB : qv_B n t s T o b) (hC : qv_C n t s T o b σ) (hk : qk_M σ) (ha : a2 = 94 ∨ a2 = 95) (hw : w < 128) (hx : ∀ m, m < 4 → σ a2 m = nI (x m) ∧ x m < 1000000) : qs_Z n t s T o b x w (ma_72_3 N (ma_66_3 N (nI w) a2 σ)) ∧ qb_F qs_Zw σ (ma_72_3 N (ma_66_3 N (nI w) a2 σ)) := by
  have n7 := hB.1
  obtain ⟨W, F2⟩ := qs_66 (N := N) (by omega) hB hC ha hw hx
  obtain ⟨μ, eμ⟩ : ∃ μ, μ = ma_66_3 N (nI w) a2 σ := ⟨_, rfl⟩
  rw [← eμ] at W F2 ⊢
  have C2 := qv_CF F2 (fun a j h c => by omega) hC n7
  have M2 : qk_M μ := qk_MF F2 (fun a j r => by unfold qb_rQ at r; omega) hk
  obtain ⟨Q, z, F3⟩ := qk_72 (N := N) hN M2.1 M2.2
  have M3 := qk_mm (N := N) hN μ M2
  obtain ⟨ν, eν⟩ : ∃ ν, ν = ma_72_3 N μ := ⟨_, rfl⟩
  rw [← eν] at Q z F3 M3 ⊢
  have C3 := qv_CF F3 (fun a j h c => by omega) C2 n7
  exact ⟨⟨C3, qs_V1 hB C3 Q z, fun m hm => ⟨(F3 81 m (by omega)).trans (W m hm).1, (F3 82 m (by omega)).trans (W m hm).2⟩, M3, z⟩, qb_Ft F2 F3 (fun a j h => by unfold qs_Zw; omega) (fun a j h => by unfold qs_Zw; omega)⟩
theorem qs_am {w : Nat} (hN : 5000 ≤ N) (hB : qv_B n t s T o b) (hC : qv_C n t s T o b σ) (hk : qk_M σ) (hw : w < 128) : qs_Z n t s T o b (qs_gl n s T) w (ma_72_3 N (ma_65_3 N (nI w) σ)) ∧ qb_F qs_Zw σ (ma_72_3 N (ma_65_3 N (nI w) σ)) := by
  have n7 := hB.1
  obtain ⟨q1, F1⟩ := qs_46 (N := N) (by omega) hB hC
  have e : ma_65_3 N (nI w) σ = ma_66_3 N (nI w) 94 (ma_46_3 N σ) := rfl
  rw [e]
  have C1 := qv_CF F1 (fun a j h c => by omega) hC n7
  obtain ⟨Z, F⟩ := qs_ax (N := N) (x := qs_gl n s T) hN hB C1 (qk_MF F1 (fun a j r => by unfold qb_rQ at r; omega) hk) (Or.inl rfl) hw (fun m hm => ⟨q1 m hm, qs_gll hB hm⟩)
  exact ⟨Z, qb_Ft F1 F (fun a j h => by unfold qs_Zw; omega) (fun a j h => h)⟩
theorem qs_87 {w : Nat} (hN : 5000 ≤ N) (hB : qv_B n t s T o b) (hC : qv_C n t s T o b σ) (hk : qk_M σ) (hw : w < 128) : (ma_87_3 N (nI w) σ).1 = nI (qs_cn n (qs_fb n t T o b (qs_gl n s T) w)) ∧ qs_Z n t s T o b (qs_gl n s T) w (ma_87_3 N (nI w) σ).2 ∧ qb_F qs_Zw σ (ma_87_3 N (nI w) σ).2 := by
  obtain ⟨Z, F⟩ := qs_am (N := N) hN hB hC hk hw
  have e : ma_87_3 N (nI w) σ = (ma_75_73_80 N (ma_72_3 N (ma_65_3 N (nI w) σ)), ma_72_3 N (ma_65_3 N (nI w) σ)) := rfl
  rw [e]
  exact ⟨qs_75 hN hB Z.2.1 Z.2.2.1 (fun m hm => qs_gll hB hm), Z, F⟩
/-- the first in the window -/
theorem qs_77 {w : Nat} (hN : 5000 ≤ N) (hB : qv_B n t s T o b) (hV : qs_V n T τ) (hW : qs_W (qs_lo t w o b x) (qs_hi t w o b x) τ) (hx : ∀ m, m < 4 → x m < 1000000) : qw_st (fun k => qs_fb n t T o b x w (1 + k) = true) (3 ^ n - 1) (fun k => nI (1 + k)) 0 (ma_77_73_80 N τ) := by
  have n7 := hB.1
  have l3 := qk_3n n7
  have p0 : 0 < 3 ^ n := Nat.pow_pos (by omega)
  unfold ma_77_73_80
  dsimp only [qa_in]
  exact qw_lf (e := fun s => Sum.inr s) (step := mc_77_73_80_p2 N τ) (N := N) (fun k => qs_fb n t T o b x w (1 + k) = true) (fun k => nI (1 + k)) (fun k => nI (1 + k)) 0 (fun z => qa_cs z (fun b3 => b3) (fun b3 => (0 : Int32))) (3 ^ n - 1) (by omega) (fun k hk => by
    unfold mc_77_73_80_p2
    dsimp only [qa_in]
    rw [if_pos (qw_ltT hV.2.1 (show 1 + k < 3 ^ n by omega) (by omega)), qs_76 (by omega) hB hV hW hx (by omega) (show 1 + k < 3 ^ n by omega), qb_s]
    by_cases c : qs_fb n t T o b x w (1 + k) = true
    · rw [if_pos c, if_neg (show ¬ (1 : Int32) = 0 by decide)]
      exact Or.inr ⟨c, _, rfl, rfl⟩
    · rw [if_neg c, if_pos (show (0 : Int32) = 0 from rfl)]
      exact Or.inl ⟨c, rfl⟩) ⟨_, by unfold mc_77_73_80_p2; rw [show 1 + (3 ^ n - 1) = 3 ^ n by omega, if_neg (qw_ltF hV.2.1 (by omega))], rfl⟩
theorem qs_193 (hN : 5000 ≤ N) (hB : qv_B n t s T o b) (hP : qv_P n t s T o b τ) : (ma_193_99 N τ).1 = nI (qs_cn n (qs_fb n t T o b (qs_gl n s T) (2 ^ t - 1))) ∧ qv_R n t s T o b (ma_193_99 N τ).2 ∧ qs_A n t T o b (qs_gl n s T) (ma_193_99 N τ).2 ∧ qb_F (fun a _ => 108 ≤ a ∧ a ≤ 112) τ (ma_193_99 N τ).2 := by
  obtain ⟨R, A, F⟩ := qs_194 (N := N) hN hB hP
  unfold ma_193_99
  dsimp only [qa_in]
  rw [qs_190p hB.2.1 R.2.1]
  exact ⟨qs_199 hN hB R.1 A (by have := Nat.two_pow_pos t; omega), R, A, F⟩
theorem qs_all1 {g : Nat} (ht : t ≤ 6) : (nI (qs_en (fun i => !qs_ap (o i) (b i) x (qs_X n T g)) t) = nI (2 ^ t - 1)) ↔ qs_fb n t T o b x (2 ^ t - 1) g = true := by
  have p0 := Nat.two_pow_pos t
  have h := qs_bwf (n := n) (T := T) (o := o) (b := b) (x := x) (g := g) (w := 2 ^ t - 1) ht (by omega)
  rw [← h, qw_an, Nat.and_two_pow_sub_one_eq_mod, Nat.mod_eq_of_lt (qs_enl t)]
theorem qw_ge {x1 : Int32} (h : ¬ x1 < -1) (h1 : x1 ≠ -1) : ∃ i, i < 2147483648 ∧ x1 = nI i := by
  have e : (-1 : Int32).toInt = -1 := by decide
  rw [Int32.lt_iff_toInt_lt, e] at h
  have n1 : x1.toInt ≠ -1 := fun c => h1 (Int32.toInt_inj.mp (c.trans e.symm))
  have r := q53_r32 x1
  exact ⟨x1.toInt.toNat, by omega, q53_nI (by omega)⟩
theorem qc_64 {xx : Prop} (hN : 5000 ≤ N) (hI : qb_I xx True σ) (hk : qk_M σ) (x1 : Int32) : (ma_64_3 N x1 σ).1 = (ma_192_99 N x1 (ma_64_3 N x1 σ).2).1 := by
  obtain ⟨n, t, s, T, o, b, B, C, P⟩ := qv_get hI
  have F : qb_F qb_sm2 σ (ma_64_3 N x1 σ).2 := mf_64_3 qb_hw (qb_hm (by omega)) qb_Fr
  suffices h : ∃ v, (ma_64_3 N x1 σ).1 = v ∧ ∀ τ, qv_P n t s T o b (qa_u τ 99 9 0) → (ma_192_99 N x1 τ).1 = v by
    obtain ⟨v, h1, h2⟩ := h
    exact h1.trans (h2 _ (qv_P2 F P)).symm
  have n7 := B.1
  have t6 := B.2.1
  have w64 := qs_2t t6
  have l3 := qk_3n n7
  unfold ma_64_3 ma_192_99
  dsimp only [qa_in]
  by_cases c4 : x1 < -1
  · rw [if_pos c4, qb_9_4]
    exact ⟨_, rfl, fun τ hP => by rw [if_pos c4]; rfl⟩
  rw [if_neg c4, qs_60p t6 C.2.1]
  obtain ⟨⟨C1, V1, W1, M1, z1⟩, -⟩ := qs_am (N := N) (w := 2 ^ t - 1) hN B C hk (by omega)
  obtain ⟨μ, eμ⟩ : ∃ μ, μ = ma_72_3 N (ma_65_3 N (nI (2 ^ t - 1)) σ) := ⟨_, rfl⟩
  rw [← eμ] at C1 V1 W1 M1 z1 ⊢
  have gl := fun m (hm : m < 4) => qs_gll (m := m) B hm
  by_cases c1 : x1 = -1
  · rw [if_pos c1]
    dsimp only
    rw [qs_75 hN B V1 W1 gl]
    refine ⟨_, rfl, fun τ hP => ?_⟩
    have l0 : x1 < 0 := by rw [c1]; decide
    rw [if_neg c4, if_pos l0, if_pos l0]
    exact (qs_193 hN B hP).1
  rw [if_neg c1]
  obtain ⟨i, hi, rfl⟩ := qw_ge c4 c1
  have l0 : ¬ nI i < (0 : Int32) := qw_n0 hi
  rcases qs_77 (N := N) hN B V1 W1 gl with ⟨k, k1, k2, k3, k4⟩ | ⟨k1, k2⟩
  · rw [k4]
    unfold ma_78_3
    rw [if_neg (show ¬ nI (1 + k) < (1 : Int32) from qb_ltF (b := 1) (by omega) (by omega))]
    have nz : qs_cn n (qs_fb n t T o b (qs_gl n s T) (2 ^ t - 1)) ≠ 0 := fun c => by
      have := (qs_ct0 (p := fun k => qs_fb n t T o b (qs_gl n s T) (2 ^ t - 1) (1 + k)) (3 ^ n - 1)).mp c k k1
      rw [k2] at this
      cases this
    have nzI : ∀ τ : qa_S, qv_P n t s T o b τ → ¬ (ma_193_99 N τ).1 = 0 := fun τ hP c => by
      rw [(qs_193 hN B hP).1] at c
      have := qs_cnl (p := qs_fb n t T o b (qs_gl n s T) (2 ^ t - 1)) n7
      exact nz ((qw_z (by omega)).mp c)
    by_cases hc : i < n
    · rw [if_neg (qw_22n n7 C1.1 hc)]
      dsimp only [qa_in]
      rw [qk_72i z1, qs_79 n7 M1.1.2 V1.1 (by omega) hc]
      refine ⟨_, rfl, fun τ hP => ?_⟩
      rw [if_neg c4, if_neg l0, if_neg (nzI _ hP)]
      obtain ⟨-, R, A, -⟩ := qs_193 (N := N) hN B hP
      obtain ⟨ρ, eρ⟩ : ∃ ρ, ρ = (ma_193_99 N (qa_u τ 99 9 0)).2 := ⟨_, rfl⟩
      rw [← eρ] at R A ⊢
      rw [if_pos (qw_ltT R.1 hc (by omega))]
      have L : qa_wh (fun s => s) (mc_192_99_p51 N (nI i) ρ) N (1 : Int32) = nI (1 + k) := by
        refine qb_l0 (fun (j : Nat) (q : Int32) => q = nI (1 + j)) (fun (q : Int32) => q = nI (1 + k)) k (by omega) rfl (fun j q hj hq => ?_) (fun q hq => ?_)
        · subst hq
          unfold mc_192_99_p51
          rw [qb_n (k := 1 + j) (by omega), A (1 + j) (by omega) (by omega), qs_190p t6 R.2.1, if_neg (fun c => k3 j hj ((qs_all1 t6).mp c)), qb_s]
          exact ⟨_, rfl, rfl⟩
        · subst hq
          unfold mc_192_99_p51
          rw [qb_n (k := 1 + k) (by omega), A (1 + k) (by omega) (by omega), qs_190p t6 R.2.1, if_pos ((qs_all1 t6).mpr k2)]
          exact ⟨_, rfl, rfl⟩
      rw [L]
      dsimp only
      rw [qb_n (k := i) (by omega)]
      exact (qs_196 (N := N) (g := 1 + k) (by omega) n7 R.1 (by omega)).1 i hc
    · rw [if_pos ((qb_22 n7 C1.1).mpr (fun h => by rw [nI_toInt hi] at h; omega))]
      refine ⟨_, rfl, fun τ hP => ?_⟩
      obtain ⟨-, R, A, -⟩ := qs_193 (N := N) hN B hP
      rw [if_neg c4, if_neg l0, if_neg (nzI _ hP), if_neg (show ¬ nI i < (ma_193_99 N (qa_u τ 99 9 0)).2 99 0 by rw [R.1]; exact qb_ltF (by omega) hi), if_neg l0]
  · rw [k2]
    unfold ma_78_3
    rw [if_pos (show (0 : Int32) < 1 by decide)]
    refine ⟨_, rfl, fun τ hP => ?_⟩
    have z : qs_cn n (qs_fb n t T o b (qs_gl n s T) (2 ^ t - 1)) = 0 := (qs_ct0 (p := fun k => qs_fb n t T o b (qs_gl n s T) (2 ^ t - 1) (1 + k)) (3 ^ n - 1)).mpr (fun k hk => Bool.eq_false_iff.mpr (k1 k hk))
    rw [if_neg c4, if_neg l0, if_pos (show (ma_193_99 N (qa_u τ 99 9 0)).1 = 0 by rw [(qs_193 hN B hP).1, z]; rfl), if_neg l0]
/-- with a cask in -/
def qs_wc (n t : Nat) (T : Nat → Nat → Nat) (o b x : Nat → Nat) (w c : Nat) : Nat := qs_cn n (fun g => qs_fb n t T o b x w g && decide (0 < qb_sh n g c))
theorem qc_89 {xx : Prop} (hN : 5000 ≤ N) (hI : qb_I xx True σ) (hk : qk_M σ) (x1 x2 : Int32) : (ma_89_3 N x1 x2 σ).1 = (ma_209_99 N x1 x2 (ma_89_3 N x1 x2 σ).2).1 := by
  obtain ⟨n, t, s, T, o, b, B, C, P⟩ := qv_get hI
  have F : qb_F qb_sm2 σ (ma_89_3 N x1 x2 σ).2 := mf_89_3 qb_hw (qb_hm (by omega)) qb_Fr
  suffices h : ∃ v, (ma_89_3 N x1 x2 σ).1 = v ∧ ∀ τ, qv_P n t s T o b (qa_u τ 99 9 0) → (ma_209_99 N x1 x2 τ).1 = v by
    obtain ⟨v, h1, h2⟩ := h
    exact h1.trans (h2 _ (qv_P2 F P)).symm
  have n7 := B.1
  have t6 := B.2.1
  have gl := fun m (hm : m < 4) => qs_gll (m := m) B hm
  unfold ma_89_3 ma_209_99
  dsimp only [qa_in]
  rcases qw_t t6 x1 with ⟨h1, h2⟩ | ⟨u, hu, rfl, h1, h2⟩
  · rw [if_pos (h1 σ C.2.1), qb_9_1]
    exact ⟨_, rfl, fun τ hP => by rw [if_pos (h2 _ hP.2.1)]; rfl⟩
  rw [if_neg (h1 σ C.2.1)]
  rcases qw_c n7 x2 with ⟨h3, h4⟩ | ⟨c, hc, rfl, h3, h4⟩
  · rw [if_pos (h3 σ C.1), qb_9_1]
    exact ⟨_, rfl, fun τ hP => by rw [if_neg (h2 _ hP.2.1), if_pos (h4 _ hP.1)]; rfl⟩
  rw [if_neg (h3 σ C.1)]
  have hw : 2 ^ u < 128 := by
    have : 2 ^ u ≤ 64 := qs_2t (by omega)
    omega
  have hw2 : 2 ^ u < 2 ^ t := Nat.pow_lt_pow_right (by omega) hu
  rw [qw_sh u (by omega)]
  obtain ⟨⟨C1, V1, W1, M1, z1⟩, -⟩ := qs_am (N := N) (w := 2 ^ u) hN B C hk hw
  obtain ⟨μ, eμ⟩ : ∃ μ, μ = ma_72_3 N (ma_65_3 N (nI (2 ^ u)) σ) := ⟨_, rfl⟩
  rw [← eμ] at C1 V1 W1 M1 z1 ⊢
  rw [qk_72i z1, qs_82 hN B M1.1.2 V1 W1 gl hc, qs_75 hN B V1 W1 gl]
  have r : ∀ τ, qv_P n t s T o b (qa_u τ 99 9 0) → (ma_199_99 N (nI (2 ^ u)) (ma_194_99 N (qa_u τ 99 9 0)) = nI (qs_cn n (qs_fb n t T o b (qs_gl n s T) (2 ^ u)))) ∧ (ma_202_99 N (nI (2 ^ u)) (nI c) (ma_194_99 N (qa_u τ 99 9 0))).1 = nI (qs_cn n (fun g => qs_fb n t T o b (qs_gl n s T) (2 ^ u) g && decide (0 < qb_sh n g c))) := fun τ hP => by
    obtain ⟨R, A, -⟩ := qs_194 (N := N) hN B hP
    exact ⟨qs_199 hN B R.1 A hw2, (qs_202 hN B R A hw2 hc).1⟩
  refine ⟨_, rfl, fun τ hP => ?_⟩
  rw [if_neg (h2 _ hP.2.1), if_neg (h4 _ hP.1), (r τ hP).1, (r τ hP).2]
  by_cases z : nI (qs_cn n (fun g => qs_fb n t T o b (qs_gl n s T) (2 ^ u) g && decide (0 < qb_sh n g c))) = 0
  · rw [if_pos z, if_pos z]
  · rw [if_neg z, if_neg z]
theorem qc_85 {xx : Prop} (hN : 5000 ≤ N) (hI : qb_I xx True σ) (hk : qk_M σ) (x1 : Int32) : (ma_85_3 N x1 σ).1 = (ma_205_99 N x1 (ma_85_3 N x1 σ).2).1 := by
  obtain ⟨n, t, s, T, o, b, B, C, P⟩ := qv_get hI
  have F : qb_F qb_sm2 σ (ma_85_3 N x1 σ).2 := mf_85_3 qb_hw (qb_hm (by omega)) qb_Fr
  suffices h : ∃ v, (ma_85_3 N x1 σ).1 = v ∧ ∀ τ, qv_P n t s T o b (qa_u τ 99 9 0) → (ma_205_99 N x1 τ).1 = v by
    obtain ⟨v, h1, h2⟩ := h
    exact h1.trans (h2 _ (qv_P2 F P)).symm
  have n7 := B.1
  have t6 := B.2.1
  have w64 := qs_2t t6
  have p2 := Nat.two_pow_pos t
  have gl := fun m (hm : m < 4) => qs_gll (m := m) B hm
  unfold ma_85_3 ma_205_99
  dsimp only [qa_in]
  rcases qw_w x1 with ⟨w1, w2, -⟩ | ⟨-, w1, w2⟩
  · rw [if_pos w1, qb_9_2]
    exact ⟨_, rfl, fun τ hP => by rw [if_pos w2]; rfl⟩
  rw [if_neg w1, qs_60p t6 C.2.1]
  obtain ⟨⟨C1, V1, W1, M1, z1⟩, -⟩ := qs_am (N := N) (w := 2 ^ t - 1) hN B C hk (by omega)
  obtain ⟨μ, eμ⟩ : ∃ μ, μ = ma_72_3 N (ma_65_3 N (nI (2 ^ t - 1)) σ) := ⟨_, rfl⟩
  rw [← eμ] at C1 V1 W1 M1 z1 ⊢
  rw [qs_75 hN B V1 W1 gl]
  obtain ⟨all, eall⟩ : ∃ all, all = qs_cn n (qs_fb n t T o b (qs_gl n s T) (2 ^ t - 1)) := ⟨_, rfl⟩
  have la : all ≤ 2186 := by rw [eall]; exact qs_cnl n7
  rw [← eall]
  obtain ⟨G, eG⟩ : ∃ G : Nat → Int32 → Int32, G = fun c a => if nI (qs_wc n t T o b (qs_gl n s T) (2 ^ t - 1) c) = (if x1 = 0 then nI all else 0) then a ||| ((1 : Int32) <<< (nI c &&& 31)) else a := ⟨_, rfl⟩
  refine ⟨if all = 0 then 0 else qw_f G n 0, ?_, fun τ hP => ?_⟩
  · by_cases z : all = 0
    · rw [if_pos z]
      refine qb_l0 (fun (k : Nat) (q : Int32 × Int32 × qa_S) => q.2.1 = 0) (fun (q : Int32 × Int32 × qa_S) => q.2.1 = 0) 0 (by omega) rfl (fun k q hk _ => by omega) (fun q hq => ?_)
      unfold mc_85_3_p50
      dsimp only [qa_in]
      rw [z, if_neg (show ¬ (0 : Int32) < nI 0 by decide)]
      split
      · exact ⟨_, rfl, hq⟩
      · exact ⟨_, rfl, hq⟩
    · rw [if_neg z]
      refine congrArg (fun (q : Int32 × Int32 × qa_S) => q.2.1) (qw_lp (e := fun s => s) (fun k (a : Int32) => (nI k, a, μ)) (fun a => (nI n, a, μ)) G n 0 (by omega) (fun c a hc => ?_) (fun a => ?_))
      · unfold mc_85_3_p50
        dsimp only [qa_in]
        rw [if_pos (qw_ltT C1.1 hc (by omega)), if_pos (show (0 : Int32) < nI all from qb_ltT (a := 0) (by omega) (by omega)), qk_72i z1, qs_82 hN B M1.1.2 V1 W1 gl hc, qb_s, eG]
        rfl
      · unfold mc_85_3_p50
        dsimp only
        rw [if_neg (qw_ltF C1.1 (by omega))]
  · rw [if_neg w2]
    obtain ⟨e1, R, A, -⟩ := qs_193 (N := N) hN B hP
    obtain ⟨ρ, eρ⟩ : ∃ ρ, ρ = ma_193_99 N (qa_u τ 99 9 0) := ⟨_, rfl⟩
    rw [← eρ] at e1 R A ⊢
    rw [← eall] at e1
    dsimp only
    rw [e1]
    by_cases z : all = 0
    · rw [if_pos z]
      refine qb_l0 (fun (k : Nat) (q : Int32 × Int32 × qa_S) => q.2.1 = 0) (fun (q : Int32 × Int32 × qa_S) => q.2.1 = 0) 0 (by omega) rfl (fun k q hk _ => by omega) (fun q hq => ?_)
      unfold mc_205_99_p32
      dsimp only [qa_in]
      rw [z, if_neg (show ¬ (0 : Int32) < nI 0 by decide)]
      split
      · exact ⟨_, rfl, hq⟩
      · exact ⟨_, rfl, hq⟩
    · rw [if_neg z]
      obtain ⟨m, h1, -⟩ := qw_lm (e := fun s => s) (step := mc_205_99_p32 N x1 (nI all)) (N := N) (fun m => qb_F (fun a _ => a = 110) ρ.2 m) (fun k (a : Int32) m => (nI k, a, m)) (fun a m => (nI n, a, m)) G n 0 ρ.2 (by omega) qb_Fr (fun c a m hc hm => by
        have R1 := qv_RF hm (fun a j h c => by omega) R
        have A1 : qs_A n t T o b (qs_gl n s T) m := fun g ga gb => (hm 112 g (by omega)).trans (A g ga gb)
        have h2 := qs_202 (N := N) (w := 2 ^ t - 1) (c := c) hN B R1 A1 (by omega) hc
        unfold mc_205_99_p32
        dsimp only [qa_in]
        rw [if_pos (qw_ltT R1.1 hc (by omega)), if_pos (show (0 : Int32) < nI all from qb_ltT (a := 0) (by omega) (by omega)), qs_190p t6 R1.2.1, h2.1, qb_s, eG]
        refine ⟨_, congrArg Sum.inl (Prod.ext rfl (Prod.ext ?_ rfl)), qb_Ft hm h2.2 (fun a j h => h) (fun a j h => h)⟩
        dsimp only
        unfold qs_wc
        generalize (if x1 = 0 then nI all else (0 : Int32)) = due
        split
        · rfl
        · exact Int32.or_zero) (fun a m hm => by
        have R1 := qv_RF hm (fun a j h c => by omega) R
        unfold mc_205_99_p32
        dsimp only
        rw [if_neg (qw_ltF R1.1 (by omega))]
        exact ⟨_, rfl, hm⟩)
      have h1' : qa_wh (fun s => s) (mc_205_99_p32 N x1 (nI all)) N ((0 : Int32), (0 : Int32), ρ.2) = _ := h1
      rw [h1']
/-- one of the fewest: drops -/
theorem qc_88 {xx : Prop} (hN : 5000 ≤ N) (hI : qb_I xx True σ) (hk : qk_M σ) : (ma_88_3 N σ).1 = (ma_207_99 N (ma_88_3 N σ).2).1 := by
  obtain ⟨n, t, s, T, o, b, B, C, P⟩ := qv_get hI
  have F : qb_F qb_sm2 σ (ma_88_3 N σ).2 := mf_88_3 qb_hw (qb_hm (by omega)) qb_Fr
  suffices h : ∃ v, (ma_88_3 N σ).1 = v ∧ ∀ τ, qv_P n t s T o b (qa_u τ 99 9 0) → (ma_207_99 N τ).1 = v by
    obtain ⟨v, h1, h2⟩ := h
    exact h1.trans (h2 _ (qv_P2 F P)).symm
  have n7 := B.1
  have t6 := B.2.1
  have w64 := qs_2t t6
  have p2 := Nat.two_pow_pos t
  obtain ⟨E, eE⟩ : ∃ E : Nat → Bool, E = fun w => qs_cn n (qs_fb n t T o b (qs_gl n s T) w) == qs_cn n (qs_fb n t T o b (qs_gl n s T) (2 ^ t - 1)) := ⟨_, rfl⟩
  have bst := qs_bst (c := fun w => qs_ct (fun k => w.testBit k) 7) (E := E) (a := 2 ^ t - 1) (by rw [eE]; exact beq_self_eq_true _) (qs_ctm t t6)
  have ct7 : ∀ v : Nat, qs_ct (fun k => v.testBit k) 7 < 2147483648 := fun v => by
    have := qs_ctl (p := fun k => v.testBit k) (n := 7)
    omega
  have Ec : ∀ w, (nI (qs_cn n (qs_fb n t T o b (qs_gl n s T) w)) = nI (qs_cn n (qs_fb n t T o b (qs_gl n s T) (2 ^ t - 1)))) ↔ E w = true := fun w => by
    have l : ∀ w, qs_cn n (qs_fb n t T o b (qs_gl n s T) w) ≤ 2186 := fun w => qs_cnl n7
    have := l w
    have := l (2 ^ t - 1)
    rw [qb_eq (by omega) (by omega), eE]
    exact beq_iff_eq.symm
  unfold ma_88_3 ma_207_99
  dsimp only [qa_in]
  rw [qs_60p t6 C.2.1]
  obtain ⟨k1, Z1, F1⟩ := qs_87 (N := N) (w := 2 ^ t - 1) hN B C hk (by omega)
  obtain ⟨μ, eμ⟩ : ∃ μ, μ = ma_87_3 N (nI (2 ^ t - 1)) σ := ⟨_, rfl⟩
  rw [← eμ] at k1 Z1 ⊢
  rw [k1]
  obtain ⟨m, e1, -⟩ := qw_ln (e := fun s => s) (step := mc_88_3_p16 N (nI (2 ^ t - 1)) (nI (qs_cn n (qs_fb n t T o b (qs_gl n s T) (2 ^ t - 1))))) (N := N) (fun _ x => x ≤ 2 ^ t - 1) (fun m => qv_C n t s T o b m ∧ qk_M m) (fun k (x : Nat) m => (nI k, nI x, m)) (fun x m => (nI (2 ^ t - 1), nI x, m)) (fun w x => if qs_ct (fun k => w.testBit k) 7 < qs_ct (fun k => x.testBit k) 7 then (if E w then w else x) else x) (2 ^ t - 1) (2 ^ t - 1) μ.2 (by omega) (Nat.le_refl _) ⟨Z1.1, Z1.2.2.2.1⟩ (fun w x m hw hx hm => by
      obtain ⟨j1, Z2, -⟩ := qs_87 (N := N) (w := w) hN B hm.1 hm.2 (by omega)
      refine ⟨⟨if qs_ct (fun k => w.testBit k) 7 < qs_ct (fun k => x.testBit k) 7 then (ma_87_3 N (nI w) m).2 else m, ?_, ?_⟩, ?_⟩
      · unfold mc_88_3_p16
        dsimp only [qa_in]
        rw [if_pos (qb_ltT hw (by omega)), qs_63 w (by omega), qs_63 x (by omega), j1, qb_s]
        by_cases c : qs_ct (fun k => w.testBit k) 7 < qs_ct (fun k => x.testBit k) 7
        · rw [if_pos (qb_ltT c (ct7 _)), if_pos (qb_ltT c (ct7 _)), if_pos c, if_pos c]
          by_cases c2 : E w = true
          · rw [if_pos c2, if_pos ((Ec w).mpr c2)]
          · rw [if_neg c2, if_neg (fun h => c2 ((Ec w).mp h))]
        · rw [if_neg (qb_ltF (Nat.le_of_not_lt c) (ct7 _)), if_neg (qb_ltF (Nat.le_of_not_lt c) (ct7 _)), if_neg c, if_neg c]
      · split
        · exact ⟨Z2.1, Z2.2.2.2.1⟩
        · exact hm
      · try dsimp only
        split
        · split <;> omega
        · exact hx) (fun x m hx hm => by
      unfold mc_88_3_p16
      dsimp only [qa_in]
      rw [if_neg (qb_ltF (Nat.le_refl _) (by omega))]
      exact ⟨_, rfl, hm⟩)
  have e1' : qa_wh (fun s => s) (mc_88_3_p16 N (nI (2 ^ t - 1)) (nI (qs_cn n (qs_fb n t T o b (qs_gl n s T) (2 ^ t - 1))))) N ((0 : Int32), nI (2 ^ t - 1), μ.2) = _ := e1
  rw [e1']
  refine ⟨_, rfl, fun τ hP => ?_⟩
  obtain ⟨r1, R, A, -⟩ := qs_193 (N := N) hN B hP
  obtain ⟨ρ, eρ⟩ : ∃ ρ, ρ = ma_193_99 N (qa_u τ 99 9 0) := ⟨_, rfl⟩
  rw [← eρ] at r1 R A ⊢
  rw [r1, qs_190p t6 R.2.1]
  have D := qw_lj (e := fun s => s) (step := mc_207_99_p20 N (nI (qs_cn n (qs_fb n t T o b (qs_gl n s T) (2 ^ t - 1)))) ρ.2) (N := N) (fun _ x => x ≤ 2 ^ t - 1) (fun k (x : Nat) => (nI (2 ^ t - 1) - nI k, nI x)) (fun x => (nI (2 ^ t - 1) - nI (2 ^ t - 1 + 1), nI x)) (fun k x => if qs_ct (fun k => x.testBit k) 7 < qs_ct (fun j => (2 ^ t - 1 - k).testBit j) 7 then x else (if E (2 ^ t - 1 - k) then 2 ^ t - 1 - k else x)) (2 ^ t - 1 + 1) (2 ^ t - 1) (by omega) (Nat.le_refl _) (fun k x hk hx => ?_) (fun x hx => ?_)
  · have e0 : nI (2 ^ t - 1) - nI 0 = nI (2 ^ t - 1) := qw_sub (Nat.zero_le _)
    have D1 := D.1
    rw [e0] at D1
    have D' : qa_wh (fun s => s) (mc_207_99_p20 N (nI (qs_cn n (qs_fb n t T o b (qs_gl n s T) (2 ^ t - 1)))) ρ.2) N (nI (2 ^ t - 1), nI (2 ^ t - 1)) = _ := D1
    rw [D']
    exact congrArg nI bst.1.symm
  · unfold mc_207_99_p20
    dsimp only [qa_in]
    have hd := qs_dn (2 ^ t - 1) (by omega)
    rw [hd.1 k (by omega), qw_sub (show k ≤ 2 ^ t - 1 by omega), if_neg (qw_n0 (by omega)), qs_208 (by omega) (show 2 ^ t - 1 - k < 128 by omega), qs_208 (by omega) (show x < 128 by omega), qs_199 hN B R.1 A (show 2 ^ t - 1 - k < 2 ^ t by omega)]
    refine ⟨congrArg Sum.inl (Prod.ext rfl ?_), ?_⟩
    · dsimp only
      by_cases c : qs_ct (fun k => x.testBit k) 7 < qs_ct (fun j => (2 ^ t - 1 - k).testBit j) 7
      · rw [if_pos c, if_pos (qb_ltT c (ct7 _))]
      · rw [if_neg c, if_neg (qb_ltF (Nat.le_of_not_lt c) (ct7 _))]
        by_cases c2 : E (2 ^ t - 1 - k) = true
        · rw [if_pos c2, if_pos ((Ec _).mpr c2)]
        · rw [if_neg c2, if_neg (fun h => c2 ((Ec _).mp h))]
    · try dsimp only
      split
      · exact hx
      · split <;> omega
  · unfold mc_207_99_p20
    dsimp only [qa_in]
    rw [if_pos (qs_dn (2 ^ t - 1) (by omega)).2]
end QN
