/-! GLASSES TRIED; gone, hidden, substitutes -/
def qs_up (s : Nat → Nat) (c v : Nat) : Nat → Nat := fun k => if k == c then v else s k
/-- how many tell a glass otherwise if a cask's share is v -/
def qs_D (n t : Nat) (x s : Nat → Nat) (T : Nat → Nat → Nat) (o b : Nat → Nat) (c v : Nat) : Nat := qs_ct (fun i => qs_ap (o i) (b i) x (qs_mx n (qs_up s c v) T 0)) t
def qv_W (n t : Nat) (x s : Nat → Nat) (T : Nat → Nat → Nat) (o b : Nat → Nat) (τ : qa_S) : Prop := qv_R n t s T o b τ ∧ (∀ m, m < 4 → τ 109 m = nI (x m) ∧ x m < 1000000) ∧ ∀ c, c < n → τ 110 c = nI (s c)
def qv_V (n t : Nat) (x s : Nat → Nat) (T : Nat → Nat → Nat) (o b : Nat → Nat) (σ : qa_S) : Prop := qv_C n t s T o b σ ∧ ∀ m, m < 4 → σ 94 m = nI (x m) ∧ x m < 1000000
section Q8
variable {n t : Nat} {x s : Nat → Nat} {T : Nat → Nat → Nat} {o b : Nat → Nat} {σ τ : qa_S} {N : Nat}
theorem qs_Dl {c v : Nat} : qs_D n t x s T o b c v ≤ t := qs_ctl
theorem qs_upx {c v : Nat} (hs : ∀ k, k < n → s k ≤ 9) (hv : v ≤ 9) : ∀ k, k < n → qs_up s c v k ≤ 9 := fun k hk => by unfold qs_up; have := hs k hk; split <;> omega
/-- the reference tries a share -/
theorem qv_218 (hN : 10 ≤ N) (hB : qv_B n t s T o b) (hW : qv_W n t x s T o b τ) {c v : Nat} (hc : c < n) (hv : v ≤ 9) : (ma_218_99 N (qa_u τ 110 c (nI v))).1 = nI (qs_D n t x s T o b c v) ∧ qv_W n t x s T o b (qa_u (ma_218_99 N (qa_u τ 110 c (nI v))).2 110 c ((ma_218_99 N (qa_u τ 110 c (nI v))).2 103 c)) := by
  obtain ⟨R, g, h⟩ := hW
  have n7 := hB.1
  have F0 : qb_F (fun a _ => a = 110) τ (qa_u τ 110 c (nI v)) := qb_Fu rfl
  have R0 := qv_RF F0 (fun a j h c => by omega) R
  obtain ⟨h1, F1⟩ := qs_218 (x := x) (r := qs_up s c v) hN hB R0 (fun m hm => ⟨(F0 109 m (by omega)).trans (g m hm).1, (g m hm).2⟩) (fun k hk => ⟨by
    rw [qb_uJ]
    unfold qs_up
    by_cases e : k = c
    · rw [if_pos e, e, beq_self_eq_true]; rfl
    · rw [if_neg e, beq_eq_false_iff_ne.mpr e]; exact h k hk, by have := qs_upx (c := c) (fun k hk => hB.2.2.1 k (by omega)) hv k hk; omega⟩)
  refine ⟨h1, ?_⟩
  obtain ⟨ρ, eρ⟩ : ∃ ρ, ρ = (ma_218_99 N (qa_u τ 110 c (nI v))).2 := ⟨_, rfl⟩
  rw [← eρ] at F1 ⊢
  have R1 := qv_RF F1 (fun a j h c => by omega) R0
  refine ⟨qv_RF (qb_Fu (w := fun a _ => a = 110) rfl) (fun a j h c => by omega) R1, fun m hm => ⟨?_, (g m hm).2⟩, fun k hk => ?_⟩
  · rw [qb_uA (by omega), F1 109 m (by omega), F0 109 m (by omega)]; exact (g m hm).1
  · rw [qb_uJ]
    by_cases e : k = c
    · rw [if_pos e, e]; exact R1.2.2.1 c (by omega)
    · rw [if_neg e, F1 110 k (by omega), qb_uN (Or.inr e)]; exact h k hk
/-- the class tries a share -/
theorem qv_117 (hN : 10 ≤ N) (hB : qv_B n t s T o b) (hV : qv_V n t x s T o b σ) {c v : Nat} (hc : c < n) (hv : v ≤ 9) : ma_99_3 N 94 95 (ma_117_3 N (nI c) (nI v) σ) = nI (qs_D n t x s T o b c v) ∧ qv_V n t x s T o b (ma_117_3 N (nI c) (nI v) σ) := by
  obtain ⟨C, g⟩ := hV
  have n7 := hB.1
  unfold ma_117_3
  dsimp only [qa_in]
  rw [qb_n (k := c) (by omega)]
  have C0 : qv_C n t (qs_up s c v) T o b (qa_u σ 7 c (nI v)) := by
    have F0 : qb_F (fun a _ => a = 7) σ (qa_u σ 7 c (nI v)) := qb_Fu rfl
    refine ⟨(F0 _ _ (by omega)).trans C.1, (F0 _ _ (by omega)).trans C.2.1, fun k hk => ?_, fun k m hk hm => (F0 _ _ (by omega)).trans (C.2.2.2.1 k m hk hm), fun i hi => ⟨(F0 _ _ (by omega)).trans (C.2.2.2.2 i hi).1, (F0 _ _ (by omega)).trans (C.2.2.2.2 i hi).2⟩⟩
    rw [qb_uJ]
    unfold qs_up
    by_cases e : k = c
    · rw [if_pos e, e, beq_self_eq_true]; rfl
    · rw [if_neg e, beq_eq_false_iff_ne.mpr e]; exact C.2.2.1 k hk
  have B0 : qv_B n t (qs_up s c v) T o b := ⟨n7, hB.2.1, fun k hk => by unfold qs_up; have := hB.2.2.1 k hk; split <;> omega, hB.2.2.2.1, hB.2.2.2.2⟩
  obtain ⟨h1, F1⟩ := qs_47 (N := N) (S0 := -1) (w := 0) (a4 := 95) (l1 := 7) (e := fun _ => true) (s1 := qs_up s c v) hN B0 C0 (by omega) (Or.inr rfl) (Or.inl rfl) (fun k hk => ⟨C0.2.2.1 k (by omega), by have := B0.2.2.1 k (by omega); omega⟩) (fun k hk => qs_48e k (by omega))
  obtain ⟨ρ, eρ⟩ : ∃ ρ, ρ = ma_47_4 N 7 (-1) 0 95 (qa_u σ 7 c (nI v)) := ⟨_, rfl⟩
  have h1' : ∀ m, m < 4 → ρ 95 m = nI (qs_mx n (qs_up s c v) T 0 m) := fun m hm => by rw [eρ]; exact h1 m hm
  have F1' : qb_F (fun a _ => a = 95) (qa_u σ 7 c (nI v)) ρ := by rw [eρ]; exact F1
  rw [← eρ]
  have C1 : qv_C n t s T o b (qa_u ρ 7 c (σ 7 c)) := by
    have F2 : qb_F (fun a _ => a = 7 ∨ a = 95) σ (qa_u ρ 7 c (σ 7 c)) := fun a j h => by rw [qb_uA (by omega), F1' a j (by omega), qb_uA (by omega)]
    refine ⟨(F2 _ _ (by omega)).trans C.1, (F2 _ _ (by omega)).trans C.2.1, fun k hk => ?_, fun k m hk hm => (F2 _ _ (by omega)).trans (C.2.2.2.1 k m hk hm), fun i hi => ⟨(F2 _ _ (by omega)).trans (C.2.2.2.2 i hi).1, (F2 _ _ (by omega)).trans (C.2.2.2.2 i hi).2⟩⟩
    rw [qb_uJ]
    by_cases e : k = c
    · rw [if_pos e, e]; exact C.2.2.1 c (by omega)
    · rw [if_neg e, F1' 7 k (by omega), qb_uN (Or.inr e)]; exact C.2.2.1 k hk
  have g1 : ∀ m, m < 4 → qa_u ρ 7 c (σ 7 c) 94 m = nI (x m) ∧ x m < 1000000 := fun m hm => ⟨by rw [qb_uA (by omega), F1' 94 m (by omega), qb_uA (by omega)]; exact (g m hm).1, (g m hm).2⟩
  refine ⟨?_, C1, g1⟩
  rw [qs_99 (x := x) (y := qs_mx n (qs_up s c v) T 0) hN hB C1 g1 (fun m hm => ⟨by rw [qb_uA (by omega)]; exact h1' m hm, (qs_mxl n7 (fun k hk => by have := B0.2.2.1 k (by omega); omega) (fun k hk => hB.2.2.2.1 k m hk hm)).2.2⟩)]
  rfl
theorem qv_W0 (hN : 10 ≤ N) (hB : qv_B n t s T o b) (hP : qv_P n t s T o b τ) : qv_W n t (qs_gl n s T) s T o b (ma_180_99 N τ) := by
  obtain ⟨R, r1, r2, -⟩ := qs_180 hN hB hP
  exact ⟨R, fun m hm => ⟨r2 m hm, qs_gll hB hm⟩, r1⟩
theorem qv_V0 (hN : 10 ≤ N) (hB : qv_B n t s T o b) (hC : qv_C n t s T o b σ) : qv_V n t (qs_gl n s T) s T o b (ma_46_3 N σ) := by
  obtain ⟨h, F⟩ := qs_46 hN hB hC
  exact ⟨qv_CF F (fun a j h c => by omega) hC hB.1, fun m hm => ⟨h m hm, qs_gll hB hm⟩⟩
theorem qs_48c : ∀ c, c < 7 → ∀ k, k < 7 → ma_48 (((1 : Int32) <<< (nI c &&& 31)) ^^^ (-1)) (nI k) = if (!(k == c)) = true then 1 else 0 := by decide +kernel
theorem qc_98 {xx yy : Prop} (hN : 5000 ≤ N) (hI : qb_I xx yy σ) (x1 : Int32) : (ma_98_3 N x1 σ).1 = (ma_217_99 N x1 (ma_98_3 N x1 σ).2).1 := by
  obtain ⟨n, t, s, T, o, b, B, C, P⟩ := qv_get hI
  have F : qb_F qb_sm2 σ (ma_98_3 N x1 σ).2 := mf_98_3 qb_hw (qb_hm (by omega)) qb_Fr
  have P2 := qv_P2 F P
  obtain ⟨τ, eτ⟩ : ∃ τ, τ = (ma_98_3 N x1 σ).2 := ⟨_, rfl⟩
  rw [← eτ] at P2 ⊢
  have n7 := B.1
  have t6 := B.2.1
  unfold ma_98_3 ma_217_99
  dsimp only [qa_in]
  rcases qw_w x1 with ⟨w1, w2, -⟩ | ⟨-, w1, w2⟩
  · rw [if_pos w1, if_pos w2, qb_9_2]; rfl
  rw [if_neg w1, if_neg w2]
  have V0 := qv_V0 (N := N) (by omega) B C
  have W0 := qv_W0 (N := N) (by omega) B P2
  obtain ⟨F0, eF⟩ : ∃ F0 : Nat → Int32 × Int32 → Int32 × Int32, F0 = fun c a => (if s c = 0 then a.1 else (if a.1 = -9 then nI c else (if nI (qs_D n t (qs_gl n s T) s T o b c 0) < a.2 then nI c else a.1)), if s c = 0 then a.2 else (if a.1 = -9 then nI (qs_D n t (qs_gl n s T) s T o b c 0) else (if nI (qs_D n t (qs_gl n s T) s T o b c 0) < a.2 then nI (qs_D n t (qs_gl n s T) s T o b c 0) else a.2))) := ⟨_, rfl⟩
  have A : ∃ m, qa_wh (fun s => s) (mc_98_3_p27 N x1) N ((0 : Int32), (-9 : Int32), (-9 : Int32), ma_46_3 N σ) = (nI n, (qw_f F0 n (-9, -9)).1, (qw_f F0 n (-9, -9)).2, m) ∧ qv_V n t (qs_gl n s T) s T o b m := by
    refine qw_lm (e := fun s => s) (step := mc_98_3_p27 N x1) (fun m => qv_V n t (qs_gl n s T) s T o b m) (fun k (a : Int32 × Int32) m => (nI k, a.1, a.2, m)) (fun a m => (nI n, a.1, a.2, m)) F0 n (-9, -9) (ma_46_3 N σ) (by omega) V0 (fun c a m hc hm => ?_) (fun a m hm => ?_)
    · obtain ⟨Cm, gm⟩ := hm
      have s9 := B.2.2.1 c (by omega)
      obtain ⟨h1, F1⟩ := qs_47 (N := N) (S0 := ((1 : Int32) <<< (nI c &&& 31)) ^^^ (-1)) (w := 0) (a4 := 95) (l1 := 7) (e := fun k => !(k == c)) (s1 := s) (by omega) B Cm (by omega) (Or.inr rfl) (Or.inl rfl) (fun k hk => ⟨Cm.2.2.1 k (by omega), by have := B.2.2.1 k (by omega); omega⟩) (fun k hk => qs_48c c (by omega) k (by omega))
      have C1 := qv_CF F1 (fun a j h c => by omega) Cm n7
      have g1 : ∀ j, j < 4 → ma_47_4 N 7 (((1 : Int32) <<< (nI c &&& 31)) ^^^ (-1)) (nI 0) 95 m 94 j = nI (qs_gl n s T j) ∧ qs_gl n s T j < 1000000 := fun j hj => ⟨(F1 94 j (by omega)).trans (gm j hj).1, (gm j hj).2⟩
      have h2 : ∀ j, j < 4 → ma_47_4 N 7 (((1 : Int32) <<< (nI c &&& 31)) ^^^ (-1)) (nI 0) 95 m 95 j = nI (qs_mx n (qs_up s c 0) T 0 j) ∧ qs_mx n (qs_up s c 0) T 0 j < 1000000 := fun j hj => ⟨by
        rw [h1 j hj]
        refine congrArg nI (qs_mxx (fun k hk => ?_))
        unfold qs_up
        cases k == c <;> rfl, (qs_mxl n7 (fun k hk => by have := qs_upx (c := c) (v := 0) (fun k hk => B.2.2.1 k (by omega)) (by omega) k hk; omega) (fun k hk => B.2.2.2.1 k j hk hj)).2.2⟩
      have h3 := qs_99 (N := N) (by omega) B C1 g1 h2
      have h3' : ma_99_3 N 94 95 (ma_47_4 N 7 (((1 : Int32) <<< (nI c &&& 31)) ^^^ (-1)) 0 95 m) = nI (qs_D n t (qs_gl n s T) s T o b c 0) := h3
      refine ⟨if m 7 c = 0 then m else ma_47_4 N 7 (((1 : Int32) <<< (nI c &&& 31)) ^^^ (-1)) 0 95 m, ?_, ?_⟩
      · unfold mc_98_3_p27
        dsimp only [qa_in]
        rw [if_pos (qw_ltT Cm.1 hc (by omega)), qb_n (k := c) (by omega), h3', qb_s, eF]
        have es : (m 7 c = 0) ↔ s c = 0 := by rw [Cm.2.2.1 c (by omega)]; exact qw_z (by omega)
        by_cases z : s c = 0
        · simp only [if_pos z, if_pos (es.mpr z)]
        · simp only [if_neg z, if_neg (fun e => z (es.mp e))]
      · split
        · exact ⟨Cm, gm⟩
        · exact ⟨C1, g1⟩
    · unfold mc_98_3_p27
      dsimp only
      rw [if_neg (qw_ltF hm.1.1 (by omega))]
      exact ⟨m, rfl, hm⟩
  have D : ∃ m, qa_wh (fun s => s) (mc_217_99_p35 N x1) N ((0 : Int32), (-9 : Int32), (-9 : Int32), ma_180_99 N (qa_u τ 99 9 0)) = (nI n, (qw_f F0 n (-9, -9)).1, (qw_f F0 n (-9, -9)).2, m) ∧ qv_W n t (qs_gl n s T) s T o b m := by
    refine qw_ln (e := fun s => s) (step := mc_217_99_p35 N x1) (fun _ (a : Int32 × Int32) => a.1 = -9 ∨ 0 ≤ a.1.toInt) (fun m => qv_W n t (qs_gl n s T) s T o b m) (fun k (a : Int32 × Int32) m => (nI k, a.1, a.2, m)) (fun a m => (nI n, a.1, a.2, m)) F0 n (-9, -9) (ma_180_99 N (qa_u τ 99 9 0)) (by omega) (Or.inl rfl) W0 (fun c a m hc hJ hm => ?_) (fun a m hJ hm => ?_)
    · have s9 := B.2.2.1 c (by omega)
      obtain ⟨h1, W1⟩ := qv_218 (N := N) (by omega) B hm hc (v := 0) (by omega)
      have sc := hm.1.2.2.1 c (by omega)
      have h1' : (ma_218_99 N (qa_u m 110 c 0)).1 = nI (qs_D n t (qs_gl n s T) s T o b c 0) := h1
      have W1' : qv_W n t (qs_gl n s T) s T o b (qa_u (ma_218_99 N (qa_u m 110 c 0)).2 110 c ((ma_218_99 N (qa_u m 110 c 0)).2 103 c)) := W1
      have es : (0 < m 103 c) ↔ ¬ s c = 0 := by
        rw [sc]
        constructor
        · intro h e; rw [e] at h; exact absurd h (by decide)
        · intro h; exact qb_ltT (a := 0) (by omega) (by omega)
      refine ⟨⟨if 0 < m 103 c then qa_u (ma_218_99 N (qa_u m 110 c 0)).2 110 c ((ma_218_99 N (qa_u m 110 c 0)).2 103 c) else m, ?_, ?_⟩, ?_⟩
      · unfold mc_217_99_p35
        dsimp only [qa_in]
        rw [if_pos (qw_ltT hm.1.1 hc (by omega)), qb_n (k := c) (by omega), h1', qb_s, eF]
        by_cases z : s c = 0
        · simp only [if_pos z, if_neg (fun e => (es.mp e) z)]
        · simp only [if_neg z, if_pos (es.mpr z)]
          have e9 : (-9 : Int32) < 0 := by decide
          rcases hJ with h9 | h0
          · simp only [h9, e9, ↓reduceIte]
            rfl
          · have n0 : ¬ a.1 < 0 := fun e => by rw [Int32.lt_iff_toInt_lt] at e; rw [show (0 : Int32).toInt = 0 by decide] at e; omega
            have n9 : ¬ a.1 = -9 := fun e => by rw [e] at h0; exact absurd h0 (by decide)
            simp only [if_neg n0, if_neg n9]
            by_cases l : nI (qs_D n t (qs_gl n s T) s T o b c 0) < a.2
            · simp only [if_pos l]; rfl
            · simp only [if_neg l]; rfl
      · split
        · exact W1'
        · exact hm
      · rw [eF]
        dsimp only
        split
        · exact hJ
        · split
          · exact Or.inr (by rw [nI_toInt (by omega)]; omega)
          · split
            · exact Or.inr (by rw [nI_toInt (by omega)]; omega)
            · exact hJ
    · unfold mc_217_99_p35
      dsimp only
      rw [if_neg (qw_ltF hm.1.1 (by omega))]
      exact ⟨m, rfl, hm⟩
  obtain ⟨m1, e1, -⟩ := A
  obtain ⟨m2, e2, -⟩ := D
  rw [e1, e2]
end Q8
