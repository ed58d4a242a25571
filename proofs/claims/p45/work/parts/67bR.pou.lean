/-! pour, closest -/
section QS3
variable {n t : Nat} {x s : Nat → Nat} {T : Nat → Nat → Nat} {o b : Nat → Nat} {σ τ : qa_S} {N : Nat}
/-! closest -/
def qs_dg (n : Nat) (T : Nat → Nat → Nat) (r : Nat → Nat) (g : Nat) : Nat := qs_di (qs_X n T g) r
theorem qs_dgl {r : Nat → Nat} {g : Nat} (hB : qv_B n t s T o b) (hr : ∀ i, i < 12 → r i ≤ 99) : qs_dg n T r g ≤ 792 := qs_dil (fun m hm => qs_Xl hB hm) (fun m hm => hr m (by omega))
theorem qs_132 {r : Nat → Nat} {g : Nat} (hN : 10 ≤ N) (hB : qv_B n t s T o b) (hV : qs_V n T τ) (h92 : ∀ i, i < 12 → τ 92 i = nI (r i)) (hr : ∀ i, i < 12 → r i ≤ 99) (ga : 1 ≤ g) (gb : g < 3 ^ n) : ma_132_73 N (nI g) 92 τ = nI (qs_dg n T r g) := by
  have n7 := hB.1
  have l3 := qk_3n n7
  unfold ma_132_73
  dsimp only [qa_in]
  refine congrArg Prod.snd (qw_lp (e := fun s => s) (fun j (a : Nat) => (nI j, nI a)) (fun a => (nI 4, nI a)) (fun m a => a + ((qs_X n T g m - r m) + (r m - qs_X n T g m))) 4 0 (by omega) (fun m a hm => ?_) (fun a => ?_))
  · have x9 := qs_Xl (g := g) hB hm
    have r9 := hr m (by omega)
    unfold mc_132_73_p5
    dsimp only
    rw [if_pos (show nI m < (4 : Int32) from qb_ltT (b := 4) hm (by omega)), qb_n (k := m) (by omega), qb_n (k := g) (by omega), (hV.2.2 g ga gb).2 m hm, h92 m (by omega), qs_113 (by omega) (by omega), qb_s, qw_add]
  · unfold mc_132_73_p5
    dsimp only
    rw [if_neg (show ¬ nI 4 < (4 : Int32) by decide)]
def qs_kC (D : Nat → Nat) (k a : Nat) : Nat := if D (2 + k) < D a then 2 + k else a
def qs_kR (D : Nat → Nat) (k : Nat) (a : Option Nat) : Option Nat := match a with
  | none => some (1 + k)
  | some c => if D (1 + k) < D c then some (1 + k) else some c
theorem qs_kk {D : Nat → Nat} : ∀ m, qw_f (qs_kR D) (m + 1) none = some (qw_f (qs_kC D) m 1) := by
  intro m
  induction m with
  | zero => rfl
  | succ m ih =>
    rw [qw_fs, ih, qw_fs]
    show (if D (1 + (m + 1)) < D (qw_f (qs_kC D) m 1) then some (1 + (m + 1)) else some (qw_f (qs_kC D) m 1)) = some (if D (2 + m) < D (qw_f (qs_kC D) m 1) then 2 + m else qw_f (qs_kC D) m 1)
    rw [show 1 + (m + 1) = 2 + m by omega]
    split <;> rfl
theorem qs_kl {D : Nat → Nat} {u : Nat} (hu : 1 < u) : ∀ m, m + 2 ≤ u → 1 ≤ qw_f (qs_kC D) m 1 ∧ qw_f (qs_kC D) m 1 < u := fun m hm => qw_fI (F := qs_kC D) (a := 1) (fun _ a => 1 ≤ a ∧ a < u) ⟨Nat.le_refl 1, hu⟩ (n := m) (fun k a hk ha => by
  unfold qs_kC
  split
  · omega
  · exact ha)
def qs_kE (D : Nat → Nat) : Option Nat → Int32 × Int32
  | none => (-9, -9)
  | some c => (nI c, nI (D c))
theorem qc_131 {xx : Prop} (hN : 5000 ≤ N) (hI : qb_I xx True σ) (hk : qk_M σ) (hr : ∀ i, i < 12 → 0 ≤ (σ 92 i).toInt ∧ (σ 92 i).toInt ≤ 99) (x1 : Int32) : (ma_131_3 N x1 σ).1 = (ma_241_99 N x1 (ma_131_3 N x1 σ).2).1 := by
  obtain ⟨n, t, s, T, o, b, B, C, P⟩ := qv_get hI
  obtain ⟨k, r, k12, r99, rw1, rx1⟩ := qv_row hI hr
  have F : qb_F qb_sm2 σ (ma_131_3 N x1 σ).2 := mf_131_3 qb_hw (qb_hm (by omega)) qb_Fr
  suffices h : ∃ v, (ma_131_3 N x1 σ).1 = v ∧ ∀ τ, qv_P n t s T o b (qa_u τ 99 9 0) → qv_rx k r (qa_u τ 99 9 0) → (ma_241_99 N x1 τ).1 = v by
    obtain ⟨v, h1, h2⟩ := h
    exact h1.trans (h2 _ (qv_P2 F P) (qv_rF (qb_Fu (w := fun a j => a = 99 ∧ j = 9) ⟨rfl, rfl⟩) (fun a j h c => by omega) (qv_rF F (fun a j h c => by unfold qb_sm2 qb_sc at c; omega) rx1))).symm
  have n7 := B.1
  have l3 := qk_3n n7
  have p0 : 0 < 3 ^ n := Nat.pow_pos (by omega)
  have m4 : (-4 : Int32) < 0 := by decide
  have m3 : (-3 : Int32) < 0 := by decide
  unfold ma_131_3 ma_241_99
  dsimp only [qa_in]
  by_cases c4 : x1 < -1
  · rw [if_pos c4, qb_9_4]
    exact ⟨_, rfl, fun τ hP hR => by rw [if_pos c4, if_pos m4]; rfl⟩
  rw [if_neg c4]
  have k4 : ∀ z : Int32, z = nI k → (z = 4 ↔ k = 4) := fun z hz => by rw [hz]; exact qb_eq (b := 4) (by omega) (by omega)
  by_cases c3 : ¬ k = 4
  · rw [if_neg (fun h => c3 ((k4 _ rw1.1).mp h)), qb_9_3]
    exact ⟨_, rfl, fun τ hP hR => by rw [if_neg c4, if_neg (fun h => c3 ((k4 _ hR.1).mp h)), if_pos m3]; rfl⟩
  have c3 : k = 4 := Decidable.of_not_not c3
  rw [if_pos ((k4 _ rw1.1).mpr c3)]
  have z00 : ¬ (0 : Int32) < 0 := by decide
  have rr : ∀ τ, qv_rx k r (qa_u τ 99 9 0) → (if x1 < -1 then (-4 : Int32) else (if qa_u τ 99 9 0 99 35 = 4 then 0 else -3)) = 0 := fun τ hR => by rw [if_neg c4, if_pos ((k4 _ hR.1).mpr c3)]
  obtain ⟨D, eD⟩ : ∃ D : Nat → Nat, D = qs_dg n T r := ⟨_, rfl⟩
  have Dl : ∀ g, D g ≤ 792 := fun g => by rw [eD]; exact qs_dgl B r99
  -- the reference's loop
  have ref : ∀ τ, qv_P n t s T o b (qa_u τ 99 9 0) → qv_rx k r (qa_u τ 99 9 0) → ∃ m, qa_wh (fun s => s) (mc_241_99_p60 N x1 (ma_195_99 N (ma_181_99 N (qa_u τ 99 9 0)))) N ((1 : Int32), (-9 : Int32), (-9 : Int32), ma_181_99 N (qa_u τ 99 9 0)) = (nI (1 + (3 ^ n - 1)), (qs_kE D (qw_f (qs_kR D) (3 ^ n - 1) none)).1, (qs_kE D (qw_f (qs_kR D) (3 ^ n - 1) none)).2, m) ∧ qv_R n t s T o b m := fun τ hP hR => by
    obtain ⟨R, F1⟩ := qv_181 (N := N) (by omega) n7 hP
    have hR1 := qv_rF F1 (fun a j h c => by omega) hR
    obtain ⟨ρ, eρ⟩ : ∃ ρ, ρ = ma_181_99 N (qa_u τ 99 9 0) := ⟨_, rfl⟩
    rw [← eρ] at R hR1 ⊢
    rw [qs_195 (by omega) n7 R.1]
    obtain ⟨m', e1, e2⟩ := qw_ln (e := fun s => s) (step := mc_241_99_p60 N x1 (nI (3 ^ n))) (N := N) (fun _ (a : Option Nat) => ∀ c, a = some c → c < 3 ^ n) (fun m => qb_F (fun a _ => a = 110 ∨ a = 111) ρ m) (fun k a m => (nI (1 + k), (qs_kE D a).1, (qs_kE D a).2, m)) (fun a m => (nI (1 + (3 ^ n - 1)), (qs_kE D a).1, (qs_kE D a).2, m)) (qs_kR D) (3 ^ n - 1) none ρ (by omega) (fun c h => by cases h) qb_Fr (fun k a μ hk ha hμ => by
      have R0 := qv_RF hμ (fun a j h c => by omega) R
      obtain ⟨b1, b2⟩ := qs_196 (N := N) (τ := μ) (g := 1 + k) (by omega) n7 R0.1 (by omega)
      have R1 := qv_RF b2 (fun a j h c => by omega) R0
      obtain ⟨m1, em1⟩ : ∃ m1, m1 = ma_196_99 N (nI (1 + k)) μ := ⟨_, rfl⟩
      rw [← em1] at b1 b2 R1
      obtain ⟨c1, c2⟩ := qs_183 (N := N) (r := qb_sh n (1 + k)) (by omega) B R1 (fun c hc => ⟨b1 c hc, by have := qk_sh2 (n := n) (g := 1 + k) (c := c); omega⟩)
      obtain ⟨m2, em2⟩ : ∃ m2, m2 = ma_183_99 N m1 := ⟨_, rfl⟩
      rw [← em2] at c1 c2
      have Z : ∀ y z, qa_wh (fun s => s) (mc_241_99_p82 N x1 (nI (3 ^ n)) y z (nI (1 + k)) m2) N ((0 : Int32), (0 : Int32)) = (nI 4, nI (D (1 + k))) := fun y z => by
        rw [eD]
        refine qw_lp (e := fun s => s) (fun j (a : Nat) => (nI j, nI a)) (fun a => (nI 4, nI a)) (fun m a => a + ((qs_X n T (1 + k) m - r m) + (r m - qs_X n T (1 + k) m))) 4 0 (by omega) (fun j a hj => ?_) (fun a => ?_)
        · have x9 := qs_Xl (g := 1 + k) B hj
          have r9 := r99 j (by omega)
          have c1' : m2 111 j = nI (qs_X n T (1 + k) j) := c1 j hj
          unfold mc_241_99_p82
          dsimp only
          rw [if_pos (show nI j < (4 : Int32) from qb_ltT (b := 4) hj (by omega)), qb_n (k := j) (by omega), c1', c2 122 j (by omega), b2 122 j (by omega), hμ 122 j (by omega), hR1.2 j (by omega), show ∀ x, ma_227 x = ma_113 x from fun _ => rfl, qs_113 (by omega) (by omega), qb_s, qw_add]
        · unfold mc_241_99_p82
          dsimp only
          rw [if_neg (show ¬ nI 4 < (4 : Int32) by decide)]
      refine ⟨⟨m2, ?_, qb_Ft (qb_Ft hμ b2 (fun a j h => h) (fun a j h => Or.inl h)) c2 (fun a j h => h) (fun a j h => Or.inr h)⟩, fun c hc => ?_⟩
      · unfold mc_241_99_p60
        dsimp only [qa_in]
        rw [if_pos (show nI (1 + k) < nI (3 ^ n) from qb_ltT (by omega) (by omega)), ← em1, ← em2, Z, qb_s]
        have d1 := Dl (1 + k)
        cases a with
        | none => rfl
        | some c =>
          have cl := ha c rfl
          have d2 := Dl c
          show (.inl (nI (1 + k + 1), (if (if nI c < 0 then (1 : Int32) else (if nI (D (1 + k)) < nI (D c) then 1 else 0)) = 0 then nI c else nI (1 + k)), (if (if nI c < 0 then (1 : Int32) else (if nI (D (1 + k)) < nI (D c) then 1 else 0)) = 0 then nI (D c) else nI (D (1 + k))), m2) : (Int32 × Int32 × Int32 × qa_S) ⊕ (Int32 × Int32 × Int32 × qa_S)) = .inl (nI (1 + (k + 1)), (qs_kE D (if D (1 + k) < D c then some (1 + k) else some c)).1, (qs_kE D (if D (1 + k) < D c then some (1 + k) else some c)).2, m2)
          rw [if_neg (qw_n0 (show c < 2147483648 by omega))]
          by_cases l : D (1 + k) < D c
          · rw [if_pos l, if_pos (qb_ltT l (by omega))]; rfl
          · rw [if_neg l, if_neg (qb_ltF (Nat.le_of_not_lt l) (by omega))]; rfl
      · cases a with
        | none => cases hc; omega
        | some d =>
          have : (if D (1 + k) < D d then some (1 + k) else some d) = some c := hc
          split at this
          · cases this; omega
          · cases this; exact ha _ rfl) (fun a m ha hm => by
      unfold mc_241_99_p60
      dsimp only
      rw [if_neg (show ¬ nI (1 + (3 ^ n - 1)) < nI (3 ^ n) from qb_ltF (by omega) (by omega))]
      exact ⟨_, rfl, hm⟩)
    exact ⟨m', e1, qv_RF e2 (fun a j h c => by omega) R⟩
  by_cases n0 : n = 0
  · rw [if_pos (show σ 4 0 = 0 by rw [C.1, n0]; rfl)]
    refine ⟨_, rfl, fun τ hP hR => ?_⟩
    rw [rr τ hR, if_neg z00]
    obtain ⟨m, e1, -⟩ := ref τ hP hR
    rw [e1]
    have e0 : qw_f (qs_kR D) (3 ^ n - 1) none = none := by rw [n0]; rfl
    rw [e0]
    show (if x1 < 0 then ((if x1 < 0 then (-9 : Int32) else -9), m) else _).1 = -9
    by_cases l0 : x1 < 0
    · rw [if_pos l0, if_pos l0]
    · rw [if_neg l0, if_pos (show (qs_kE D none).1 < 0 from (by decide : (-9 : Int32) < 0)), if_neg l0]
  rw [if_neg (show ¬ σ 4 0 = 0 by rw [C.1]; exact fun h => n0 ((qw_z (by omega)).mp h))]
  have n3 : 3 ≤ 3 ^ n := by
    have : 3 ^ 1 ≤ 3 ^ n := Nat.pow_le_pow_right (by omega) (by omega)
    omega
  obtain ⟨best, ebest⟩ : ∃ c, c = qw_f (qs_kC D) (3 ^ n - 2) 1 := ⟨_, rfl⟩
  have bl := qs_kl (D := D) (u := 3 ^ n) (by omega) (3 ^ n - 2) (by omega)
  rw [← ebest] at bl
  -- the class's loop
  have W92 : ∀ m, qb_F qs_Zw σ m → ∀ i, i < 12 → m 92 i = nI (r i) := fun m hm i hi => (hm 92 i (by unfold qs_Zw; omega)).trans (rw1.2 i hi)
  have mix : ∀ m, qb_F qs_Zw σ m ∧ qk_M m → qs_V n T (ma_72_3 N m) ∧ ma_72_3 N m 3 18 = 0 ∧ qb_F qs_Zw σ (ma_72_3 N m) ∧ qk_M (ma_72_3 N m) := fun m hm => by
    obtain ⟨Q, z, F3⟩ := qk_72 (N := N) hN hm.2.1 hm.2.2
    have F4 : qb_F qs_Zw σ (ma_72_3 N m) := qb_Ft hm.1 F3 (fun a j h => h) (fun a j h => by unfold qs_Zw; omega)
    exact ⟨qs_V1 B (qv_CF F4 (fun a j h c => by unfold qs_Zw at c; omega) C n7) Q z, z, F4, qk_mm hN m hm.2⟩
  obtain ⟨m, e1, e2⟩ := qw_ln (e := fun s => s) (step := mc_131_3_p44 N x1) (N := N) (fun _ a => 1 ≤ a ∧ a < 3 ^ n) (fun m => qb_F qs_Zw σ m ∧ qk_M m) (fun k a m => (nI (2 + k), nI a, m)) (fun a m => (nI (2 + (3 ^ n - 2)), nI a, m)) (qs_kC D) (3 ^ n - 2) 1 σ (by omega) ⟨Nat.le_refl 1, by omega⟩ ⟨qb_Fr, hk⟩ (fun k a m hk ha hm => by
    obtain ⟨V, z, F4, M4⟩ := mix m hm
    refine ⟨⟨ma_72_3 N m, ?_, F4, M4⟩, ?_⟩
    · have d1 := Dl (2 + k)
      have d2 := Dl a
      unfold mc_131_3_p44
      dsimp only [qa_in]
      rw [if_pos (qw_ltT V.2.1 (show 2 + k < 3 ^ n by omega) (by omega)), qk_72i z, qk_72i z, qs_132 (by omega) B V (W92 _ F4) r99 (by omega) (show 2 + k < 3 ^ n by omega), qs_132 (by omega) B V (W92 _ F4) r99 ha.1 ha.2, ← eD, qb_s]
      unfold qs_kC
      by_cases l : D (2 + k) < D a
      · rw [if_pos l, if_pos (qb_ltT l (by omega))]; rfl
      · rw [if_neg l, if_neg (qb_ltF (Nat.le_of_not_lt l) (by omega))]; rfl
    · unfold qs_kC
      split
      · omega
      · exact ha) (fun a m ha hm => by
    obtain ⟨V, z, F4, M4⟩ := mix m hm
    unfold mc_131_3_p44
    dsimp only [qa_in]
    rw [if_neg (show ¬ nI (2 + (3 ^ n - 2)) < ma_72_3 N m 73 1 by rw [V.2.1]; exact qb_ltF (by omega) (by omega))]
    exact ⟨ma_72_3 N m, rfl, F4, M4⟩)
  have e1' : qa_wh (fun s => s) (mc_131_3_p44 N x1) N ((2 : Int32), (1 : Int32), σ) = (nI (2 + (3 ^ n - 2)), nI best, m) := by rw [ebest]; exact e1
  rw [e1']
  dsimp only
  obtain ⟨V, z, F4, M4⟩ := mix m e2
  rw [qs_132 (by omega) B V (W92 _ F4) r99 bl.1 bl.2, ← eD]
  have rk : qw_f (qs_kR D) (3 ^ n - 1) none = some best := by
    rw [show 3 ^ n - 1 = (3 ^ n - 2) + 1 by omega, qs_kk, ebest]
  by_cases c1 : x1 = -1
  · rw [if_pos c1]
    refine ⟨_, rfl, fun τ hP hR => ?_⟩
    have l0 : x1 < 0 := by rw [c1]; decide
    rw [rr τ hR, if_neg z00]
    obtain ⟨m', f1, -⟩ := ref τ hP hR
    rw [f1, rk, if_pos l0, if_pos l0]
    rfl
  · rw [if_neg c1]
    obtain ⟨i, hi, rfl⟩ := qw_ge c4 c1
    have l0 : ¬ nI i < (0 : Int32) := qw_n0 hi
    unfold ma_78_3
    rw [if_neg (show ¬ nI best < (1 : Int32) from qb_ltF (b := 1) (by omega) (by omega))]
    have Cm := qv_CF e2.1 (fun a j h c => by unfold qs_Zw at c; omega) C n7
    by_cases hc : i < n
    · rw [if_neg (qw_22n n7 Cm.1 hc)]
      dsimp only [qa_in]
      rw [qs_79 n7 M4.1.2 V.1 (by omega) hc]
      refine ⟨_, rfl, fun τ hP hR => ?_⟩
      rw [rr τ hR, if_neg z00]
      obtain ⟨m', f1, f2⟩ := ref τ hP hR
      rw [f1, rk, if_neg l0]
      dsimp only
      rw [show (qs_kE D (some best)).1 = nI best from rfl, if_neg (qw_n0 (show best < 2147483648 by omega)), if_pos (qw_ltT f2.1 hc (by omega))]
      dsimp only
      rw [qb_n (k := i) (by omega)]
      exact (qs_196 (N := N) (g := best) (by omega) n7 f2.1 (by omega)).1 i hc
    · rw [if_pos ((qb_22 n7 Cm.1).mpr (fun h => by rw [nI_toInt hi] at h; omega))]
      refine ⟨_, rfl, fun τ hP hR => ?_⟩
      rw [rr τ hR, if_neg z00]
      obtain ⟨m', f1, f2⟩ := ref τ hP hR
      rw [f1, rk, if_neg l0]
      dsimp only
      rw [show (qs_kE D (some best)).1 = nI best from rfl, if_neg (qw_n0 (show best < 2147483648 by omega)), if_neg (show ¬ nI i < m' 99 0 by rw [f2.1]; exact qb_ltF (by omega) hi), if_neg l0]
end QS3
