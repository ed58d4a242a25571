/-! emptyOnes -/
def qv_Kc (V : Nat → Int32) (σ : qa_S) : Prop := ∀ k, k < 7 → σ 5 k = V (2 + 3 * k) ∧ σ 6 k = V (3 + 3 * k) ∧ ∀ j, j < 4 → σ (9 + k) j = V (23 + 4 * k + j)
def qv_Kr (V : Nat → Int32) (τ : qa_S) : Prop := ∀ k, k < 7 → τ 100 k = V (2 + 3 * k) ∧ τ 101 k = V (3 + 3 * k) ∧ ∀ j, j < 4 → τ 102 (4 * k + j) = V (23 + 4 * k + j)
def qs_V4 (V : Nat → Int32) (c : Nat) : Nat → Int32 := fun i => if i = 2 + 3 * c then 4 else V i
def qs_T4 (V : Nat → Int32) (c k m : Nat) : Nat := (qb_TV (qs_V4 V c) k m).toNatClampNeg
theorem qs_D4 {V : Nat → Int32} {c : Nat} (hc : c < 7) (hD : qb_D V) : qb_D (qs_V4 V c) := fun i hi => by
  unfold qs_V4
  by_cases e : i = 2 + 3 * c
  · rw [if_pos e, e]
    have : ∀ c, c < 7 → 0 ≤ (4 : Int32).toInt ∧ (4 : Int32).toInt ≤ (qb_hi (2 + 3 * c) : Int) := by decide
    exact this c hc
  · rw [if_neg e]; exact hD i hi
theorem qs_T4b {V : Nat → Int32} {c : Nat} (hc : c < 7) (hD : qb_D V) : ∀ k m, k < 7 → m < 4 → qb_TV (qs_V4 V c) k m = nI (qs_T4 V c k m) ∧ qs_T4 V c k m ≤ 99 := fun k m hk hm => by
  have h := qw_nn (qw_T (qs_D4 hc hD) k hk m hm)
  refine ⟨h.1, ?_⟩
  have := h.2
  unfold qs_T4
  omega
section QF
variable {n t : Nat} {s : Nat → Nat} {T T' : Nat → Nat → Nat} {o b : Nat → Nat} {σ τ : qa_S} {N : Nat} {V : Nat → Int32}
theorem qv_29 (hN : 10 ≤ N) (hn : n ≤ 7) (h0 : σ 4 0 = nI n) (hK : qv_Kc V σ) (hT : ∀ c m, c < n → m < 4 → qb_TV V c m = nI (T' c m)) : (∀ c m, c < n → m < 4 → ma_29_4 N σ (17 + c) m = nI (T' c m)) ∧ qb_F (fun a _ => 17 ≤ a ∧ a < 24) σ (ma_29_4 N σ) := by
  obtain ⟨h1, h2⟩ := qb_29 (σ := σ) (N := N) (n := n) (K := fun c => V (2 + 3 * c)) (F := fun c => V (3 + 3 * c)) (R := fun c m => V (23 + 4 * c + m)) hN hn h0 (fun c hc => (hK c (by omega)).1) (fun c hc => (hK c (by omega)).2.1) (fun c m hc hm => (hK c (by omega)).2.2 m hm)
  exact ⟨fun c m hc hm => (h1 c m hc hm).trans (hT c m hc hm), h2⟩
theorem qv_K4 {c : Nat} (hc : c < 7) (hK : qv_Kc V σ) : qv_Kc (qs_V4 V c) (qa_u σ 5 c 4) := fun k hk => by
  obtain ⟨h1, h2, h3⟩ := hK k hk
  unfold qs_V4
  refine ⟨?_, ?_, fun j hj => ?_⟩
  · rw [qb_uJ]
    by_cases e : k = c
    · rw [if_pos e, if_pos (by omega)]
    · rw [if_neg e, if_neg (by omega)]; exact h1
  · rw [qb_uA (by omega), if_neg (by omega)]; exact h2
  · rw [qb_uA (by omega), if_neg (by omega)]; exact h3 j hj
theorem qv_Kr4 {c : Nat} (hc : c < 7) (hK : qv_Kr V τ) : qv_Kr (qs_V4 V c) (qa_u τ 100 c 4) := fun k hk => by
  obtain ⟨h1, h2, h3⟩ := hK k hk
  unfold qs_V4
  refine ⟨?_, ?_, fun j hj => ?_⟩
  · rw [qb_uJ]
    by_cases e : k = c
    · rw [if_pos e, if_pos (by omega)]
    · rw [if_neg e, if_neg (by omega)]; exact h1
  · rw [qb_uA (by omega), if_neg (by omega)]; exact h2
  · rw [qb_uA (by omega), if_neg (by omega)]; exact h3 j hj
/-- the reference's view from its kinds -/
theorem qv_PK (hn : n ≤ 7) (h1 : τ 99 0 = nI n) (h2 : τ 99 5 = nI t) (h3 : ∀ c, c < 7 → τ 103 c = nI (s c)) (h4 : ∀ i, i < 6 → τ 104 i = nI (o i) ∧ τ 105 i = nI (b i)) (hK : qv_Kr V τ) (hT : ∀ c m, c < n → m < 4 → qb_TV V c m = nI (T' c m)) : qv_P n t s T' o b τ := by
  refine ⟨h1, h2, h3, h4, fun c m hc hm => ?_⟩
  rw [← hT c m hc hm]
  exact qb_Tx (n := 7) (fun c hc => (hK c hc).1) (fun c hc => (hK c hc).2.1) (fun c m hc hm => (hK c hc).2.2 m hm) c m (by omega) hm
theorem qc_100 {xx yy : Prop} (hN : 5000 ≤ N) (hI : qb_I xx yy σ) : (ma_100_3 N σ).1 = (ma_219_99 N (ma_100_3 N σ).2).1 := by
  have hD := hI.1.2
  have hY := hI.2.2.2.2.2.2.1
  obtain ⟨V, eV⟩ : ∃ V, V = qb_gm σ := ⟨_, rfl⟩
  have Kr : qv_Kr V σ := fun k hk => by
    rw [eV]
    unfold qb_gm
    rw [qb_mK k hk, qb_mG k hk]
    exact ⟨rfl, rfl, fun j hj => by rw [qb_mM k hk j hj]⟩
  have Kc : qv_Kc V σ := fun k hk => by
    obtain ⟨a1, a2, a3, a4⟩ := qb_alK hI hk
    obtain ⟨b1, b2, b3⟩ := Kr k hk
    exact ⟨a1.trans b1, a2.trans b2, fun j hj => (a4 j hj).trans (b3 j hj)⟩
  obtain ⟨n, t, s, T, o, b, B, C, P⟩ := qv_get hI
  have n7 := B.1
  have t6 := B.2.1
  obtain ⟨n', n7', n1', n2', n3'⟩ := qb_An hI.1
  have en : n' = n := (qb_eq (by omega) (by omega)).mp (n1'.symm.trans C.1)
  have hT : ∀ c m, c < n → m < 4 → qb_TV V c m = nI (T c m) := fun c m hc hm => by
    rw [eV, ← hY c m (by omega) hm]
    exact C.2.2.2.1 c m hc hm
  rw [← eV] at hD
  have hT4 : ∀ c, c < n → ∀ k m, k < n → m < 4 → qb_TV (qs_V4 V c) k m = nI (qs_T4 V c k m) := fun c hc k m hk hm => (qs_T4b (by omega) hD k m (by omega) hm).1
  have B4 : ∀ c, c < n → qv_B n t s (qs_T4 V c) o b := fun c hc => ⟨n7, t6, B.2.2.1, fun k m hk hm => (qs_T4b (by omega) hD k m (by omega) hm).2, B.2.2.2.2⟩
  have s9 : ∀ c, c < n → s c ≤ 9 := fun c hc => B.2.2.1 c (by omega)
  obtain ⟨D, eD⟩ : ∃ D : Nat → Nat, D = fun c => qs_ct (fun i => qs_ap (o i) (b i) (qs_gl n s T) (qs_mx n s (qs_T4 V c) 0)) t := ⟨_, rfl⟩
  have Dl : ∀ c, D c ≤ t := fun c => by rw [eD]; exact qs_ctl
  have ml : ∀ c, c < n → ∀ m, m < 4 → qs_mx n s (qs_T4 V c) 0 m < 1000000 := fun c hc m hm => (qs_mxl n7 (fun k hk => by have := s9 k hk; omega) (fun k hk => (B4 c hc).2.2.2.1 k m hk hm)).2.2
  obtain ⟨g0, G0⟩ := qs_46 (N := N) (by omega) B C
  have A : ∃ m, qa_wh (fun s => s) (mc_100_3_p8 N) N ((0 : Int32), (0 : Int32), ma_46_3 N σ) = (nI n, qw_f (fun c a => if s c = 0 then a else if D c = 0 then a ||| ((1 : Int32) <<< (nI c &&& 31)) else a) n 0, m) ∧ (qv_C n t s T o b m ∧ (∀ j, j < 4 → m 94 j = nI (qs_gl n s T j)) ∧ qv_Kc V m ∧ qb_F (fun a _ => a = 5 ∨ (17 ≤ a ∧ a < 24) ∨ a = 94 ∨ a = 95) σ m) := by
    refine qw_lm (e := fun s => s) (step := mc_100_3_p8 N) (fun m => qv_C n t s T o b m ∧ (∀ j, j < 4 → m 94 j = nI (qs_gl n s T j)) ∧ qv_Kc V m ∧ qb_F (fun a _ => a = 5 ∨ (17 ≤ a ∧ a < 24) ∨ a = 94 ∨ a = 95) σ m) (fun k (a : Int32) m => (nI k, a, m)) (fun a m => (nI n, a, m)) (fun c a => if s c = 0 then a else if D c = 0 then a ||| ((1 : Int32) <<< (nI c &&& 31)) else a) n 0 _ (by omega) ⟨qv_CF G0 (fun a j h c => by omega) C n7, g0, fun k hk => ⟨(G0 _ _ (by omega)).trans (Kc k hk).1, (G0 _ _ (by omega)).trans (Kc k hk).2.1, fun j hj => (G0 _ _ (by omega)).trans ((Kc k hk).2.2 j hj)⟩, qb_Fw G0 (fun a j h => by omega)⟩ (fun c a m hc hm => ?_) (fun a m hm => ?_)
    · obtain ⟨Cm, gm, Km, Fm⟩ := hm
      obtain ⟨m1, e1⟩ : ∃ m1, m1 = qa_u m 5 c 4 := ⟨_, rfl⟩
      have F1 : qb_F (fun a _ => a = 5) m m1 := by rw [e1]; exact qb_Fu rfl
      have K1 : qv_Kc (qs_V4 V c) m1 := by rw [e1]; exact qv_K4 (by omega) Km
      obtain ⟨t2, F2⟩ := qv_29 (σ := m1) (N := N) (by omega) n7 ((F1 4 0 (by omega)).trans Cm.1) K1 (hT4 c hc)
      obtain ⟨m2, e2⟩ : ∃ m2, m2 = ma_29_4 N m1 := ⟨_, rfl⟩
      rw [← e2] at t2 F2
      have F12 : qb_F (fun a _ => a = 5 ∨ (17 ≤ a ∧ a < 24)) m m2 := fun a j h => by rw [F2 a j (by omega), F1 a j (by omega)]
      have C2 : qv_C n t s (qs_T4 V c) o b m2 := ⟨(F12 _ _ (by omega)).trans Cm.1, (F12 _ _ (by omega)).trans Cm.2.1, fun k hk => (F12 _ _ (by omega)).trans (Cm.2.2.1 k hk), t2, fun i hi => ⟨(F12 _ _ (by omega)).trans (Cm.2.2.2.2 i hi).1, (F12 _ _ (by omega)).trans (Cm.2.2.2.2 i hi).2⟩⟩
      obtain ⟨h3, F3⟩ := qs_47 (N := N) (S0 := -1) (w := 0) (a4 := 95) (l1 := 7) (e := fun _ => true) (s1 := s) (by omega) (B4 c hc) C2 (by omega) (Or.inr rfl) (Or.inl rfl) (fun k hk => ⟨C2.2.2.1 k (by omega), by have := s9 k hk; omega⟩) (fun k hk => qs_48e k (by omega))
      obtain ⟨m3, e3⟩ : ∃ m3, m3 = ma_47_4 N 7 (-1) 0 95 m2 := ⟨_, rfl⟩
      have h3' : ∀ j, j < 4 → m3 95 j = nI (qs_mx n s (qs_T4 V c) 0 j) := fun j hj => by rw [e3]; exact h3 j hj
      have F3' : qb_F (fun a _ => a = 95) m2 m3 := by rw [e3]; exact F3
      obtain ⟨m4, e4⟩ : ∃ m4, m4 = qa_u m3 5 c (m 5 c) := ⟨_, rfl⟩
      have F4 : qb_F (fun a _ => (17 ≤ a ∧ a < 24) ∨ a = 95) m m4 := fun a j h => by
        rw [e4]
        by_cases e : a = 5 ∧ j = c
        · rw [e.1, e.2, qb_uE]
        · rw [qb_uN (by omega), F3' a j (by omega), F2 a j (by omega), e1, qb_uN (by omega)]
      have K4 : qv_Kc V m4 := fun k hk => ⟨(F4 _ _ (by omega)).trans (Km k hk).1, (F4 _ _ (by omega)).trans (Km k hk).2.1, fun j hj => (F4 _ _ (by omega)).trans ((Km k hk).2.2 j hj)⟩
      obtain ⟨t5, F5⟩ := qv_29 (σ := m4) (N := N) (by omega) n7 ((F4 4 0 (by omega)).trans Cm.1) K4 hT
      obtain ⟨m5, e5⟩ : ∃ m5, m5 = ma_29_4 N m4 := ⟨_, rfl⟩
      rw [← e5] at t5 F5
      have F6 : qb_F (fun a _ => (17 ≤ a ∧ a < 24) ∨ a = 95) m m5 := fun a j h => by rw [F5 a j (by omega), F4 a j h]
      have C5 : qv_C n t s T o b m5 := ⟨(F6 _ _ (by omega)).trans Cm.1, (F6 _ _ (by omega)).trans Cm.2.1, fun k hk => (F6 _ _ (by omega)).trans (Cm.2.2.1 k hk), t5, fun i hi => ⟨(F6 _ _ (by omega)).trans (Cm.2.2.2.2 i hi).1, (F6 _ _ (by omega)).trans (Cm.2.2.2.2 i hi).2⟩⟩
      have g5 : ∀ j, j < 4 → m5 94 j = nI (qs_gl n s T j) := fun j hj => (F6 _ _ (by omega)).trans (gm j hj)
      have h5 : ∀ j, j < 4 → m5 95 j = nI (qs_mx n s (qs_T4 V c) 0 j) := fun j hj => by
        rw [F5 95 j (by omega), e4, qb_uA (by omega)]; exact h3' j hj
      have K5 : qv_Kc V m5 := fun k hk => ⟨(F6 _ _ (by omega)).trans (Km k hk).1, (F6 _ _ (by omega)).trans (Km k hk).2.1, fun j hj => (F6 _ _ (by omega)).trans ((Km k hk).2.2 j hj)⟩
      have E : ma_101_3 N (nI c) m = m5 := by
        unfold ma_101_3
        dsimp only [qa_in]
        rw [qb_n (k := c) (by omega), ← e1, ← e2, ← e3, ← e4, ← e5]
      have r4 : ma_99_3 N 94 95 m5 = nI (D c) := by
        rw [eD]
        exact qs_99 (N := N) (by omega) B C5 (fun j hj => ⟨g5 j hj, qs_gll B hj⟩) (fun j hj => ⟨h5 j hj, ml c hc j hj⟩)
      have Dc := Dl c
      refine ⟨if m 7 c = 0 then m else m5, ?_, ?_⟩
      · unfold mc_100_3_p8
        dsimp only [qa_in]
        rw [if_pos (qw_ltT Cm.1 hc (by omega)), qb_n (k := c) (by omega), E, r4, qb_s]
        have sc9 := s9 c hc
        have es : (m 7 c = 0) ↔ s c = 0 := by rw [Cm.2.2.1 c (by omega)]; exact qw_z (by omega)
        by_cases z : s c = 0
        · simp only [if_pos z, if_pos (es.mpr z)]
        · simp only [if_neg z, if_neg (fun e => z (es.mp e))]
          by_cases d : D c = 0
          · rw [if_pos ((qw_z (by omega)).mpr d), if_pos d]
          · rw [if_neg (fun e => d ((qw_z (by omega)).mp e)), if_neg d]
      · split
        · exact ⟨Cm, gm, Km, Fm⟩
        · exact ⟨C5, g5, K5, fun a j h => by rw [F6 a j (by omega), Fm a j (by omega)]⟩
    · unfold mc_100_3_p8
      dsimp only
      rw [if_neg (qw_ltF hm.1.1 (by omega))]
      exact ⟨m, rfl, hm⟩
  obtain ⟨mA, eA, -, -, -, FA⟩ := A
  have e100 : ma_100_3 N σ = (qw_f (fun c a => if s c = 0 then a else if D c = 0 then a ||| ((1 : Int32) <<< (nI c &&& 31)) else a) n 0, mA) := by
    unfold ma_100_3
    dsimp only [qa_in]
    rw [eA]
  rw [e100]
  dsimp only
  -- the reference
  have F9 : qb_F (fun a _ => a < 99) σ mA := qb_Fw FA (fun a j h => by omega)
  have F10 : qb_F (fun a j => a < 99 ∨ (a = 99 ∧ j = 9)) σ (qa_u mA 99 9 0) := fun a j h => by rw [qb_uN (by omega), F9 a j (by omega)]
  have P1 := qv_PF F10 (fun a j h c => by omega) P
  have Kr1 : qv_Kr V (qa_u mA 99 9 0) := fun k hk => ⟨(F10 _ _ (by omega)).trans (Kr k hk).1, (F10 _ _ (by omega)).trans (Kr k hk).2.1, fun j hj => (F10 _ _ (by omega)).trans ((Kr k hk).2.2 j hj)⟩
  obtain ⟨R, r1, r2, G2⟩ := qs_180 (N := N) (by omega) B P1
  unfold ma_219_99
  dsimp only [qa_in]
  obtain ⟨ρ, eρ⟩ : ∃ ρ, ρ = ma_180_99 N (qa_u mA 99 9 0) := ⟨_, rfl⟩
  rw [← eρ] at R r1 r2 G2 ⊢
  have Kr2 : qv_Kr V ρ := fun k hk => ⟨(G2 _ _ (by omega)).trans (Kr1 k hk).1, (G2 _ _ (by omega)).trans (Kr1 k hk).2.1, fun j hj => (G2 _ _ (by omega)).trans ((Kr1 k hk).2.2 j hj)⟩
  have D2 : ∃ m, qa_wh (fun s => s) (mc_219_99_p13 N) N ((0 : Int32), (0 : Int32), ρ) = (nI n, qw_f (fun c a => if s c = 0 then a else if D c = 0 then a ||| ((1 : Int32) <<< (nI c &&& 31)) else a) n 0, m) ∧ (qv_P n t s T o b m ∧ (∀ j, j < 4 → m 109 j = nI (qs_gl n s T j)) ∧ (∀ c, c < n → m 110 c = nI (s c)) ∧ qv_Kr V m) := by
    refine qw_lm (e := fun s => s) (step := mc_219_99_p13 N) (fun m => qv_P n t s T o b m ∧ (∀ j, j < 4 → m 109 j = nI (qs_gl n s T j)) ∧ (∀ c, c < n → m 110 c = nI (s c)) ∧ qv_Kr V m) (fun k (a : Int32) m => (nI k, a, m)) (fun a m => (nI n, a, m)) (fun c a => if s c = 0 then a else if D c = 0 then a ||| ((1 : Int32) <<< (nI c &&& 31)) else a) n 0 _ (by omega) ⟨qv_PF G2 (fun a j h c => by omega) P1, r2, r1, Kr2⟩ (fun c a m hc hm => ?_) (fun a m hm => ?_)
    · obtain ⟨Pm, gm, hm110, Km⟩ := hm
      obtain ⟨m3, e3⟩ : ∃ m3, m3 = qa_u m 100 c 4 := ⟨_, rfl⟩
      have F3 : qb_F (fun a _ => a = 100) m m3 := by rw [e3]; exact qb_Fu rfl
      have K3 : qv_Kr (qs_V4 V c) m3 := by rw [e3]; exact qv_Kr4 (by omega) Km
      have P3 : qv_P n t s (qs_T4 V c) o b m3 := qv_PK n7 ((F3 _ _ (by omega)).trans Pm.1) ((F3 _ _ (by omega)).trans Pm.2.1) (fun k hk => (F3 _ _ (by omega)).trans (Pm.2.2.1 k hk)) (fun i hi => ⟨(F3 _ _ (by omega)).trans (Pm.2.2.2.1 i hi).1, (F3 _ _ (by omega)).trans (Pm.2.2.2.1 i hi).2⟩) K3 (hT4 c hc)
      obtain ⟨R4, F4⟩ := qv_181 (N := N) (by omega) n7 P3
      obtain ⟨m4, e4⟩ : ∃ m4, m4 = ma_181_99 N m3 := ⟨_, rfl⟩
      rw [← e4] at R4 F4
      obtain ⟨h5, F5⟩ := qs_218 (N := N) (x := qs_gl n s T) (r := s) (by omega) (B4 c hc) R4 (fun j hj => ⟨by rw [F4 109 j (by omega), F3 109 j (by omega)]; exact gm j hj, qs_gll B hj⟩) (fun k hk => ⟨by rw [F4 110 k (by omega), F3 110 k (by omega)]; exact hm110 k hk, by have := s9 k hk; omega⟩)
      obtain ⟨q5, e5⟩ : ∃ q5, q5 = ma_218_99 N m4 := ⟨_, rfl⟩
      rw [← e5] at h5 F5
      have h5' : q5.1 = nI (D c) := by rw [eD]; exact h5
      obtain ⟨m7, e7⟩ : ∃ m7, m7 = qa_u q5.2 100 c (m 100 c) := ⟨_, rfl⟩
      have F7 : qb_F (fun a _ => a = 108 ∨ a = 111) m m7 := fun a j h => by
        rw [e7]
        by_cases e : a = 100 ∧ j = c
        · rw [e.1, e.2, qb_uE]
        · rw [qb_uN (by omega), F5 a j (by omega), F4 a j (by omega), e3, qb_uN (by omega)]
      have Dc := Dl c
      refine ⟨if 0 < m 103 c then m7 else m, ?_, ?_⟩
      · unfold mc_219_99_p13
        dsimp only [qa_in]
        rw [if_pos (qw_ltT Pm.1 hc (by omega)), qb_n (k := c) (by omega), ← e3, ← e4, ← e5, ← e7, h5', qb_s]
        have sc9 := s9 c hc
        have es : (0 < m 103 c) ↔ ¬ s c = 0 := by rw [Pm.2.2.1 c (by omega)]; exact qw_p0 (by omega)
        by_cases z : s c = 0
        · simp only [if_pos z, if_neg (fun e => (es.mp e) z)]
        · simp only [if_neg z, if_pos (es.mpr z)]
          by_cases d : D c = 0
          · rw [if_pos ((qw_z (by omega)).mpr d), if_pos d]
          · rw [if_neg (fun e => d ((qw_z (by omega)).mp e)), if_neg d, Int32.or_zero]
      · split
        · exact ⟨qv_PF F7 (fun a j h c => by omega) Pm, fun j hj => (F7 _ _ (by omega)).trans (gm j hj), fun k hk => (F7 _ _ (by omega)).trans (hm110 k hk), fun k hk => ⟨(F7 _ _ (by omega)).trans (Km k hk).1, (F7 _ _ (by omega)).trans (Km k hk).2.1, fun j hj => (F7 _ _ (by omega)).trans ((Km k hk).2.2 j hj)⟩⟩
        · exact ⟨Pm, gm, hm110, Km⟩
    · unfold mc_219_99_p13
      dsimp only
      rw [if_neg (qw_ltF hm.1.1 (by omega))]
      exact ⟨m, rfl, hm⟩
  obtain ⟨m2, e2, -⟩ := D2
  rw [e2]
end QF
