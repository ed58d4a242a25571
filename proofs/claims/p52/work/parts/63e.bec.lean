/-! a cellar becomes another one -/
theorem qb_cpA {σ : qa_S} {a sp b dp n c i : Nat} (h : c ≠ b) : qa_cp σ a sp b dp n c i = σ c i := by unfold qa_cp; rw [if_neg (fun e => h e.1)]
theorem qb_cpI {σ : qa_S} {a b n i : Nat} (h : i < n) : qa_cp σ a 0 b 0 n b i = σ a i := by unfold qa_cp; rw [if_pos ⟨rfl, Nat.zero_le _, by omega⟩]; congr 1; omega
theorem qb_call {a : Nat} {σ : qa_S} {V : Nat → Int32} (h0 : σ a 0 = V 0) (h1 : σ a 1 = V 1) (hK : ∀ c, c < 7 → σ (a + 1) c = V (2 + 3 * c)) (hG : ∀ c, c < 7 → σ (a + 2) c = V (3 + 3 * c)) (hS : ∀ c, c < 7 → σ (a + 3) c = V (4 + 3 * c)) (hM : ∀ c m, c < 7 → m < 4 → σ (a + 5 + c) m = V (23 + 4 * c + m)) (hO : ∀ t, t < 6 → σ (a + 20) t = V (51 + 3 * t)) (hB : ∀ t, t < 6 → σ (a + 21) t = V (52 + 3 * t)) (hY : ∀ t, t < 6 → σ (a + 22) t = V (53 + 3 * t)) : ∀ i, i < 69 → qb_gc a σ i = V i := by
  intro i hi
  unfold qb_gc
  by_cases e0 : i = 0
  · subst e0; exact h0
  by_cases e1 : i = 1
  · subst e1; exact h1
  by_cases e2 : i < 23
  · obtain ⟨c, r, hc, hr, e⟩ : ∃ c r, c < 7 ∧ r < 3 ∧ i = 2 + 3 * c + r := ⟨(i - 2) / 3, (i - 2) % 3, by omega, by omega, by omega⟩
    have : r = 0 ∨ r = 1 ∨ r = 2 := by omega
    rcases this with rfl | rfl | rfl
    · have e : i = 2 + 3 * c := e
      rw [e, qb_cK hc]; exact hK c hc
    · have e : i = 3 + 3 * c := by omega
      rw [e, qb_cG hc]; exact hG c hc
    · have e : i = 4 + 3 * c := by omega
      rw [e, qb_cS hc]; exact hS c hc
  by_cases e3 : i < 51
  · obtain ⟨c, m, hc, hm, e⟩ : ∃ c m, c < 7 ∧ m < 4 ∧ i = 23 + 4 * c + m := ⟨(i - 23) / 4, (i - 23) % 4, by omega, by omega, by omega⟩
    rw [e, qb_cM hc hm]; exact hM c m hc hm
  · obtain ⟨t, r, ht, hr, e⟩ : ∃ t r, t < 6 ∧ r < 3 ∧ i = 51 + 3 * t + r := ⟨(i - 51) / 3, (i - 51) % 3, by omega, by omega, by omega⟩
    have : r = 0 ∨ r = 1 ∨ r = 2 := by omega
    rcases this with rfl | rfl | rfl
    · have e : i = 51 + 3 * t := e
      rw [e, qb_cO ht]; exact hO t ht
    · have e : i = 52 + 3 * t := by omega
      rw [e, qb_cB ht]; exact hB t ht
    · have e : i = 53 + 3 * t := by omega
      rw [e, qb_cY ht]; exact hY t ht
theorem qb_mall {σ : qa_S} {V : Nat → Int32} (h0 : σ 99 0 = V 0) (h1 : σ 99 5 = V 1) (hK : ∀ c, c < 7 → σ 100 c = V (2 + 3 * c)) (hG : ∀ c, c < 7 → σ 101 c = V (3 + 3 * c)) (hS : ∀ c, c < 7 → σ 103 c = V (4 + 3 * c)) (hM : ∀ c m, c < 7 → m < 4 → σ 102 (4 * c + m) = V (23 + 4 * c + m)) (hO : ∀ t, t < 6 → σ 104 t = V (51 + 3 * t)) (hB : ∀ t, t < 6 → σ 105 t = V (52 + 3 * t)) (hY : ∀ t, t < 6 → σ 106 t = V (53 + 3 * t)) : ∀ i, i < 69 → qb_gm σ i = V i := by
  intro i hi
  unfold qb_gm
  by_cases e0 : i = 0
  · subst e0; exact h0
  by_cases e1 : i = 1
  · subst e1; exact h1
  by_cases e2 : i < 23
  · obtain ⟨c, r, hc, hr, e⟩ : ∃ c r, c < 7 ∧ r < 3 ∧ i = 2 + 3 * c + r := ⟨(i - 2) / 3, (i - 2) % 3, by omega, by omega, by omega⟩
    have : r = 0 ∨ r = 1 ∨ r = 2 := by omega
    rcases this with rfl | rfl | rfl
    · have e : i = 2 + 3 * c := e
      rw [e, qb_mK c hc]; exact hK c hc
    · have e : i = 3 + 3 * c := by omega
      rw [e, qb_mG c hc]; exact hG c hc
    · have e : i = 4 + 3 * c := by omega
      rw [e, qb_mS c hc]; exact hS c hc
  by_cases e3 : i < 51
  · obtain ⟨c, m, hc, hm, e⟩ : ∃ c m, c < 7 ∧ m < 4 ∧ i = 23 + 4 * c + m := ⟨(i - 23) / 4, (i - 23) % 4, by omega, by omega, by omega⟩
    rw [e, qb_mM c hc m hm]; exact hM c m hc hm
  · obtain ⟨t, r, ht, hr, e⟩ : ∃ t r, t < 6 ∧ r < 3 ∧ i = 51 + 3 * t + r := ⟨(i - 51) / 3, (i - 51) % 3, by omega, by omega, by omega⟩
    have : r = 0 ∨ r = 1 ∨ r = 2 := by omega
    rcases this with rfl | rfl | rfl
    · have e : i = 51 + 3 * t := e
      rw [e, qb_mO t ht]; exact hO t ht
    · have e : i = 52 + 3 * t := by omega
      rw [e, qb_mB t ht]; exact hB t ht
    · have e : i = 53 + 3 * t := by omega
      rw [e, qb_mY t ht]; exact hY t ht
theorem qb_12_50_4 {σ : qa_S} {N : Nat} (hN : 10 ≤ N) : (∀ i, i < 69 → qb_gc 50 (ma_12_50_4 N σ) i = qb_gc 4 σ i) ∧ qb_F (fun b j => (b = 50 ∧ j < 2) ∨ (51 ≤ b ∧ b ≤ 53) ∨ (55 ≤ b ∧ b ≤ 61) ∨ (70 ≤ b ∧ b ≤ 72)) σ (ma_12_50_4 N σ) := by
  unfold ma_12_50_4
  dsimp only [qa_in]
  obtain ⟨τ, eτ⟩ : ∃ τ, τ = qa_cp (qa_cp (qa_cp (qa_u (qa_u σ 50 0 (σ 4 0)) 50 1 (qa_u σ 50 0 (σ 4 0) 4 1)) 5 0 51 0 7) 6 0 52 0 7) 7 0 53 0 7 := ⟨_, rfl⟩
  rw [← eτ]
  have t0 : τ 50 0 = σ 4 0 := by rw [eτ, qb_cpA (by decide), qb_cpA (by decide), qb_cpA (by decide), qb_uN (by decide), qb_uE]
  have t1 : τ 50 1 = σ 4 1 := by rw [eτ, qb_cpA (by decide), qb_cpA (by decide), qb_cpA (by decide), qb_uE, qb_uN (by decide)]
  have tK : ∀ c, c < 7 → τ 51 c = σ 5 c := fun c hc => by rw [eτ, qb_cpA (by decide), qb_cpA (by decide), qb_cpI hc, qb_uA (by decide), qb_uA (by decide)]
  have tG : ∀ c, c < 7 → τ 52 c = σ 6 c := fun c hc => by rw [eτ, qb_cpA (by decide), qb_cpI hc, qb_cpA (by decide), qb_uA (by decide), qb_uA (by decide)]
  have tS : ∀ c, c < 7 → τ 53 c = σ 7 c := fun c hc => by rw [eτ, qb_cpI hc, qb_cpA (by decide), qb_cpA (by decide), qb_uA (by decide), qb_uA (by decide)]
  have tF : qb_F (fun b j => (b = 50 ∧ j < 2) ∨ (51 ≤ b ∧ b ≤ 53) ∨ (55 ≤ b ∧ b ≤ 61) ∨ (70 ≤ b ∧ b ≤ 72)) σ τ := fun b j h => by rw [eτ, qb_cpA (by omega), qb_cpA (by omega), qb_cpA (by omega), qb_uN (by omega), qb_uN (by omega)]
  obtain ⟨ρ, eρ⟩ : ∃ ρ, ρ = (qa_wh (fun s => s) (mc_12_50_4_p63 N) N ((0 : Int32), τ)).2 := ⟨_, rfl⟩
  rw [← eρ]
  have L : (∀ c m, c < 7 → m < 4 → ρ (55 + c) m = σ (9 + c) m) ∧ qb_F (fun b _ => 55 ≤ b ∧ b ≤ 61) τ ρ := by
    rw [eρ]
    refine qb_l0 (fun (k : Nat) (s : Int32 × qa_S) => s.1 = nI k ∧ (∀ c m, c < k → m < 4 → s.2 (55 + c) m = σ (9 + c) m) ∧ qb_F (fun b _ => 55 ≤ b ∧ b ≤ 61) τ s.2) (fun (x : Int32 × qa_S) => (∀ c m, c < 7 → m < 4 → x.2 (55 + c) m = σ (9 + c) m) ∧ qb_F (fun b _ => 55 ≤ b ∧ b ≤ 61) τ x.2) 7 (by omega) ⟨rfl, fun c m hc => by omega, qb_Fr⟩ ?_ ?_
    · rintro k ⟨s1, s2⟩ hk ⟨h1, h2, h3⟩
      dsimp only at h1 h2 h3
      subst h1
      unfold mc_12_50_4_p63
      dsimp only [qa_in]
      rw [if_pos (show nI k < (7 : Int32) from qb_ltT (b := 7) hk (by omega)), qb_n (k := k) (by omega)]
      refine ⟨_, rfl, qb_s, fun c m hc hm => ?_, fun b j h => ?_⟩
      · dsimp only
        by_cases e : c = k
        · subst e
          rw [qb_cpI hm, h3 _ _ (by omega), tF _ _ (by omega)]
        · rw [qb_cpA (by omega)]
          exact h2 c m (by omega) hm
      · dsimp only
        rw [qb_cpA (by omega)]
        exact h3 b j h
    · rintro ⟨s1, s2⟩ ⟨h1, h2, h3⟩
      dsimp only at h1 h2 h3
      subst h1
      unfold mc_12_50_4_p63
      dsimp only [qa_in]
      rw [if_neg (show ¬ nI 7 < (7 : Int32) from qb_ltF (b := 7) (by omega) (by omega))]
      exact ⟨_, rfl, h2, h3⟩
  obtain ⟨lM, lF⟩ := L
  have rF : qb_F (fun b j => (b = 50 ∧ j < 2) ∨ (51 ≤ b ∧ b ≤ 53) ∨ (55 ≤ b ∧ b ≤ 61) ∨ (70 ≤ b ∧ b ≤ 72)) σ ρ := qb_Ft tF lF (fun _ _ h => h) (fun _ _ h => by omega)
  constructor
  · refine qb_call ?_ ?_ (fun c hc => ?_) (fun c hc => ?_) (fun c hc => ?_) (fun c m hc hm => ?_) (fun t ht => ?_) (fun t ht => ?_) (fun t ht => ?_)
    · rw [qb_cpA (by decide), qb_cpA (by decide), qb_cpA (by decide), lF _ _ (by omega)]; exact t0
    · rw [qb_cpA (by decide), qb_cpA (by decide), qb_cpA (by decide), lF _ _ (by omega)]; exact t1
    · unfold qb_gc
      rw [qb_cpA (by decide), qb_cpA (by decide), qb_cpA (by decide), lF _ _ (by omega), qb_cK hc]; exact tK c hc
    · unfold qb_gc
      rw [qb_cpA (by decide), qb_cpA (by decide), qb_cpA (by decide), lF _ _ (by omega), qb_cG hc]; exact tG c hc
    · unfold qb_gc
      rw [qb_cpA (by decide), qb_cpA (by decide), qb_cpA (by decide), lF _ _ (by omega), qb_cS hc]; exact tS c hc
    · unfold qb_gc
      rw [qb_cpA (by omega), qb_cpA (by omega), qb_cpA (by omega), qb_cM hc hm]; exact lM c m hc hm
    · unfold qb_gc
      rw [qb_cO ht]
      show qa_cp _ _ _ _ _ _ 70 t = _
      rw [qb_cpA (by decide), qb_cpA (by decide), qb_cpI ht, rF _ _ (by omega)]
    · unfold qb_gc
      rw [qb_cB ht]
      show qa_cp _ _ _ _ _ _ 71 t = _
      rw [qb_cpA (by decide), qb_cpI ht, qb_cpA (by decide), rF _ _ (by omega)]
    · unfold qb_gc
      rw [qb_cY ht]
      show qa_cp _ _ _ _ _ _ 72 t = _
      rw [qb_cpI ht, qb_cpA (by decide), qb_cpA (by decide), rF _ _ (by omega)]
  · intro b j h
    rw [qb_cpA (by omega), qb_cpA (by omega), qb_cpA (by omega)]
    exact rF b j h
theorem qb_12_4_50 {σ : qa_S} {N : Nat} (hN : 10 ≤ N) : (∀ i, i < 69 → qb_gc 4 (ma_12_4_50 N σ) i = qb_gc 50 σ i) ∧ qb_F (fun b j => (b = 4 ∧ j < 2) ∨ (5 ≤ b ∧ b ≤ 7) ∨ (9 ≤ b ∧ b ≤ 15) ∨ (24 ≤ b ∧ b ≤ 26)) σ (ma_12_4_50 N σ) := by
  unfold ma_12_4_50
  dsimp only [qa_in]
  obtain ⟨τ, eτ⟩ : ∃ τ, τ = qa_cp (qa_cp (qa_cp (qa_u (qa_u σ 4 0 (σ 50 0)) 4 1 (qa_u σ 4 0 (σ 50 0) 50 1)) 51 0 5 0 7) 52 0 6 0 7) 53 0 7 0 7 := ⟨_, rfl⟩
  rw [← eτ]
  have t0 : τ 4 0 = σ 50 0 := by rw [eτ, qb_cpA (by decide), qb_cpA (by decide), qb_cpA (by decide), qb_uN (by decide), qb_uE]
  have t1 : τ 4 1 = σ 50 1 := by rw [eτ, qb_cpA (by decide), qb_cpA (by decide), qb_cpA (by decide), qb_uE, qb_uN (by decide)]
  have tK : ∀ c, c < 7 → τ 5 c = σ 51 c := fun c hc => by rw [eτ, qb_cpA (by decide), qb_cpA (by decide), qb_cpI hc, qb_uA (by decide), qb_uA (by decide)]
  have tG : ∀ c, c < 7 → τ 6 c = σ 52 c := fun c hc => by rw [eτ, qb_cpA (by decide), qb_cpI hc, qb_cpA (by decide), qb_uA (by decide), qb_uA (by decide)]
  have tS : ∀ c, c < 7 → τ 7 c = σ 53 c := fun c hc => by rw [eτ, qb_cpI hc, qb_cpA (by decide), qb_cpA (by decide), qb_uA (by decide), qb_uA (by decide)]
  have tF : qb_F (fun b j => (b = 4 ∧ j < 2) ∨ (5 ≤ b ∧ b ≤ 7) ∨ (9 ≤ b ∧ b ≤ 15) ∨ (24 ≤ b ∧ b ≤ 26)) σ τ := fun b j h => by rw [eτ, qb_cpA (by omega), qb_cpA (by omega), qb_cpA (by omega), qb_uN (by omega), qb_uN (by omega)]
  obtain ⟨ρ, eρ⟩ : ∃ ρ, ρ = (qa_wh (fun s => s) (mc_12_4_50_p63 N) N ((0 : Int32), τ)).2 := ⟨_, rfl⟩
  rw [← eρ]
  have L : (∀ c m, c < 7 → m < 4 → ρ (9 + c) m = σ (55 + c) m) ∧ qb_F (fun b _ => 9 ≤ b ∧ b ≤ 15) τ ρ := by
    rw [eρ]
    refine qb_l0 (fun (k : Nat) (s : Int32 × qa_S) => s.1 = nI k ∧ (∀ c m, c < k → m < 4 → s.2 (9 + c) m = σ (55 + c) m) ∧ qb_F (fun b _ => 9 ≤ b ∧ b ≤ 15) τ s.2) (fun (x : Int32 × qa_S) => (∀ c m, c < 7 → m < 4 → x.2 (9 + c) m = σ (55 + c) m) ∧ qb_F (fun b _ => 9 ≤ b ∧ b ≤ 15) τ x.2) 7 (by omega) ⟨rfl, fun c m hc => by omega, qb_Fr⟩ ?_ ?_
    · rintro k ⟨s1, s2⟩ hk ⟨h1, h2, h3⟩
      dsimp only at h1 h2 h3
      subst h1
      unfold mc_12_4_50_p63
      dsimp only [qa_in]
      rw [if_pos (show nI k < (7 : Int32) from qb_ltT (b := 7) hk (by omega)), qb_n (k := k) (by omega)]
      refine ⟨_, rfl, qb_s, fun c m hc hm => ?_, fun b j h => ?_⟩
      · dsimp only
        by_cases e : c = k
        · subst e
          rw [qb_cpI hm, h3 _ _ (by omega), tF _ _ (by omega)]
        · rw [qb_cpA (by omega)]
          exact h2 c m (by omega) hm
      · dsimp only
        rw [qb_cpA (by omega)]
        exact h3 b j h
    · rintro ⟨s1, s2⟩ ⟨h1, h2, h3⟩
      dsimp only at h1 h2 h3
      subst h1
      unfold mc_12_4_50_p63
      dsimp only [qa_in]
      rw [if_neg (show ¬ nI 7 < (7 : Int32) from qb_ltF (b := 7) (by omega) (by omega))]
      exact ⟨_, rfl, h2, h3⟩
  obtain ⟨lM, lF⟩ := L
  have rF : qb_F (fun b j => (b = 4 ∧ j < 2) ∨ (5 ≤ b ∧ b ≤ 7) ∨ (9 ≤ b ∧ b ≤ 15) ∨ (24 ≤ b ∧ b ≤ 26)) σ ρ := qb_Ft tF lF (fun _ _ h => h) (fun _ _ h => by omega)
  constructor
  · refine qb_call ?_ ?_ (fun c hc => ?_) (fun c hc => ?_) (fun c hc => ?_) (fun c m hc hm => ?_) (fun t ht => ?_) (fun t ht => ?_) (fun t ht => ?_)
    · rw [qb_cpA (by decide), qb_cpA (by decide), qb_cpA (by decide), lF _ _ (by omega)]; exact t0
    · rw [qb_cpA (by decide), qb_cpA (by decide), qb_cpA (by decide), lF _ _ (by omega)]; exact t1
    · unfold qb_gc
      rw [qb_cpA (by decide), qb_cpA (by decide), qb_cpA (by decide), lF _ _ (by omega), qb_cK hc]; exact tK c hc
    · unfold qb_gc
      rw [qb_cpA (by decide), qb_cpA (by decide), qb_cpA (by decide), lF _ _ (by omega), qb_cG hc]; exact tG c hc
    · unfold qb_gc
      rw [qb_cpA (by decide), qb_cpA (by decide), qb_cpA (by decide), lF _ _ (by omega), qb_cS hc]; exact tS c hc
    · unfold qb_gc
      rw [qb_cpA (by omega), qb_cpA (by omega), qb_cpA (by omega), qb_cM hc hm]; exact lM c m hc hm
    · unfold qb_gc
      rw [qb_cO ht]
      show qa_cp _ _ _ _ _ _ 24 t = _
      rw [qb_cpA (by decide), qb_cpA (by decide), qb_cpI ht, rF _ _ (by omega)]
    · unfold qb_gc
      rw [qb_cB ht]
      show qa_cp _ _ _ _ _ _ 25 t = _
      rw [qb_cpA (by decide), qb_cpI ht, qb_cpA (by decide), rF _ _ (by omega)]
    · unfold qb_gc
      rw [qb_cY ht]
      show qa_cp _ _ _ _ _ _ 26 t = _
      rw [qb_cpI ht, qb_cpA (by decide), qb_cpA (by decide), rF _ _ (by omega)]
  · intro b j h
    rw [qb_cpA (by omega), qb_cpA (by omega), qb_cpA (by omega)]
    exact rF b j h
theorem qb_12_27_4 {σ : qa_S} {N : Nat} (hN : 10 ≤ N) : (∀ i, i < 69 → qb_gc 27 (ma_12_27_4 N σ) i = qb_gc 4 σ i) ∧ qb_F (fun b j => (b = 27 ∧ j < 2) ∨ (28 ≤ b ∧ b ≤ 30) ∨ (32 ≤ b ∧ b ≤ 38) ∨ (47 ≤ b ∧ b ≤ 49)) σ (ma_12_27_4 N σ) := by
  unfold ma_12_27_4
  dsimp only [qa_in]
  obtain ⟨τ, eτ⟩ : ∃ τ, τ = qa_cp (qa_cp (qa_cp (qa_u (qa_u σ 27 0 (σ 4 0)) 27 1 (qa_u σ 27 0 (σ 4 0) 4 1)) 5 0 28 0 7) 6 0 29 0 7) 7 0 30 0 7 := ⟨_, rfl⟩
  rw [← eτ]
  have t0 : τ 27 0 = σ 4 0 := by rw [eτ, qb_cpA (by decide), qb_cpA (by decide), qb_cpA (by decide), qb_uN (by decide), qb_uE]
  have t1 : τ 27 1 = σ 4 1 := by rw [eτ, qb_cpA (by decide), qb_cpA (by decide), qb_cpA (by decide), qb_uE, qb_uN (by decide)]
  have tK : ∀ c, c < 7 → τ 28 c = σ 5 c := fun c hc => by rw [eτ, qb_cpA (by decide), qb_cpA (by decide), qb_cpI hc, qb_uA (by decide), qb_uA (by decide)]
  have tG : ∀ c, c < 7 → τ 29 c = σ 6 c := fun c hc => by rw [eτ, qb_cpA (by decide), qb_cpI hc, qb_cpA (by decide), qb_uA (by decide), qb_uA (by decide)]
  have tS : ∀ c, c < 7 → τ 30 c = σ 7 c := fun c hc => by rw [eτ, qb_cpI hc, qb_cpA (by decide), qb_cpA (by decide), qb_uA (by decide), qb_uA (by decide)]
  have tF : qb_F (fun b j => (b = 27 ∧ j < 2) ∨ (28 ≤ b ∧ b ≤ 30) ∨ (32 ≤ b ∧ b ≤ 38) ∨ (47 ≤ b ∧ b ≤ 49)) σ τ := fun b j h => by rw [eτ, qb_cpA (by omega), qb_cpA (by omega), qb_cpA (by omega), qb_uN (by omega), qb_uN (by omega)]
  obtain ⟨ρ, eρ⟩ : ∃ ρ, ρ = (qa_wh (fun s => s) (mc_12_27_4_p63 N) N ((0 : Int32), τ)).2 := ⟨_, rfl⟩
  rw [← eρ]
  have L : (∀ c m, c < 7 → m < 4 → ρ (32 + c) m = σ (9 + c) m) ∧ qb_F (fun b _ => 32 ≤ b ∧ b ≤ 38) τ ρ := by
    rw [eρ]
    refine qb_l0 (fun (k : Nat) (s : Int32 × qa_S) => s.1 = nI k ∧ (∀ c m, c < k → m < 4 → s.2 (32 + c) m = σ (9 + c) m) ∧ qb_F (fun b _ => 32 ≤ b ∧ b ≤ 38) τ s.2) (fun (x : Int32 × qa_S) => (∀ c m, c < 7 → m < 4 → x.2 (32 + c) m = σ (9 + c) m) ∧ qb_F (fun b _ => 32 ≤ b ∧ b ≤ 38) τ x.2) 7 (by omega) ⟨rfl, fun c m hc => by omega, qb_Fr⟩ ?_ ?_
    · rintro k ⟨s1, s2⟩ hk ⟨h1, h2, h3⟩
      dsimp only at h1 h2 h3
      subst h1
      unfold mc_12_27_4_p63
      dsimp only [qa_in]
      rw [if_pos (show nI k < (7 : Int32) from qb_ltT (b := 7) hk (by omega)), qb_n (k := k) (by omega)]
      refine ⟨_, rfl, qb_s, fun c m hc hm => ?_, fun b j h => ?_⟩
      · dsimp only
        by_cases e : c = k
        · subst e
          rw [qb_cpI hm, h3 _ _ (by omega), tF _ _ (by omega)]
        · rw [qb_cpA (by omega)]
          exact h2 c m (by omega) hm
      · dsimp only
        rw [qb_cpA (by omega)]
        exact h3 b j h
    · rintro ⟨s1, s2⟩ ⟨h1, h2, h3⟩
      dsimp only at h1 h2 h3
      subst h1
      unfold mc_12_27_4_p63
      dsimp only [qa_in]
      rw [if_neg (show ¬ nI 7 < (7 : Int32) from qb_ltF (b := 7) (by omega) (by omega))]
      exact ⟨_, rfl, h2, h3⟩
  obtain ⟨lM, lF⟩ := L
  have rF : qb_F (fun b j => (b = 27 ∧ j < 2) ∨ (28 ≤ b ∧ b ≤ 30) ∨ (32 ≤ b ∧ b ≤ 38) ∨ (47 ≤ b ∧ b ≤ 49)) σ ρ := qb_Ft tF lF (fun _ _ h => h) (fun _ _ h => by omega)
  constructor
  · refine qb_call ?_ ?_ (fun c hc => ?_) (fun c hc => ?_) (fun c hc => ?_) (fun c m hc hm => ?_) (fun t ht => ?_) (fun t ht => ?_) (fun t ht => ?_)
    · rw [qb_cpA (by decide), qb_cpA (by decide), qb_cpA (by decide), lF _ _ (by omega)]; exact t0
    · rw [qb_cpA (by decide), qb_cpA (by decide), qb_cpA (by decide), lF _ _ (by omega)]; exact t1
    · unfold qb_gc
      rw [qb_cpA (by decide), qb_cpA (by decide), qb_cpA (by decide), lF _ _ (by omega), qb_cK hc]; exact tK c hc
    · unfold qb_gc
      rw [qb_cpA (by decide), qb_cpA (by decide), qb_cpA (by decide), lF _ _ (by omega), qb_cG hc]; exact tG c hc
    · unfold qb_gc
      rw [qb_cpA (by decide), qb_cpA (by decide), qb_cpA (by decide), lF _ _ (by omega), qb_cS hc]; exact tS c hc
    · unfold qb_gc
      rw [qb_cpA (by omega), qb_cpA (by omega), qb_cpA (by omega), qb_cM hc hm]; exact lM c m hc hm
    · unfold qb_gc
      rw [qb_cO ht]
      show qa_cp _ _ _ _ _ _ 47 t = _
      rw [qb_cpA (by decide), qb_cpA (by decide), qb_cpI ht, rF _ _ (by omega)]
    · unfold qb_gc
      rw [qb_cB ht]
      show qa_cp _ _ _ _ _ _ 48 t = _
      rw [qb_cpA (by decide), qb_cpI ht, qb_cpA (by decide), rF _ _ (by omega)]
    · unfold qb_gc
      rw [qb_cY ht]
      show qa_cp _ _ _ _ _ _ 49 t = _
      rw [qb_cpI ht, qb_cpA (by decide), qb_cpA (by decide), rF _ _ (by omega)]
  · intro b j h
    rw [qb_cpA (by omega), qb_cpA (by omega), qb_cpA (by omega)]
    exact rF b j h
theorem qb_12_4_27 {σ : qa_S} {N : Nat} (hN : 10 ≤ N) : (∀ i, i < 69 → qb_gc 4 (ma_12_4_27 N σ) i = qb_gc 27 σ i) ∧ qb_F (fun b j => (b = 4 ∧ j < 2) ∨ (5 ≤ b ∧ b ≤ 7) ∨ (9 ≤ b ∧ b ≤ 15) ∨ (24 ≤ b ∧ b ≤ 26)) σ (ma_12_4_27 N σ) := by
  unfold ma_12_4_27
  dsimp only [qa_in]
  obtain ⟨τ, eτ⟩ : ∃ τ, τ = qa_cp (qa_cp (qa_cp (qa_u (qa_u σ 4 0 (σ 27 0)) 4 1 (qa_u σ 4 0 (σ 27 0) 27 1)) 28 0 5 0 7) 29 0 6 0 7) 30 0 7 0 7 := ⟨_, rfl⟩
  rw [← eτ]
  have t0 : τ 4 0 = σ 27 0 := by rw [eτ, qb_cpA (by decide), qb_cpA (by decide), qb_cpA (by decide), qb_uN (by decide), qb_uE]
  have t1 : τ 4 1 = σ 27 1 := by rw [eτ, qb_cpA (by decide), qb_cpA (by decide), qb_cpA (by decide), qb_uE, qb_uN (by decide)]
  have tK : ∀ c, c < 7 → τ 5 c = σ 28 c := fun c hc => by rw [eτ, qb_cpA (by decide), qb_cpA (by decide), qb_cpI hc, qb_uA (by decide), qb_uA (by decide)]
  have tG : ∀ c, c < 7 → τ 6 c = σ 29 c := fun c hc => by rw [eτ, qb_cpA (by decide), qb_cpI hc, qb_cpA (by decide), qb_uA (by decide), qb_uA (by decide)]
  have tS : ∀ c, c < 7 → τ 7 c = σ 30 c := fun c hc => by rw [eτ, qb_cpI hc, qb_cpA (by decide), qb_cpA (by decide), qb_uA (by decide), qb_uA (by decide)]
  have tF : qb_F (fun b j => (b = 4 ∧ j < 2) ∨ (5 ≤ b ∧ b ≤ 7) ∨ (9 ≤ b ∧ b ≤ 15) ∨ (24 ≤ b ∧ b ≤ 26)) σ τ := fun b j h => by rw [eτ, qb_cpA (by omega), qb_cpA (by omega), qb_cpA (by omega), qb_uN (by omega), qb_uN (by omega)]
  obtain ⟨ρ, eρ⟩ : ∃ ρ, ρ = (qa_wh (fun s => s) (mc_12_4_27_p63 N) N ((0 : Int32), τ)).2 := ⟨_, rfl⟩
  rw [← eρ]
  have L : (∀ c m, c < 7 → m < 4 → ρ (9 + c) m = σ (32 + c) m) ∧ qb_F (fun b _ => 9 ≤ b ∧ b ≤ 15) τ ρ := by
    rw [eρ]
    refine qb_l0 (fun (k : Nat) (s : Int32 × qa_S) => s.1 = nI k ∧ (∀ c m, c < k → m < 4 → s.2 (9 + c) m = σ (32 + c) m) ∧ qb_F (fun b _ => 9 ≤ b ∧ b ≤ 15) τ s.2) (fun (x : Int32 × qa_S) => (∀ c m, c < 7 → m < 4 → x.2 (9 + c) m = σ (32 + c) m) ∧ qb_F (fun b _ => 9 ≤ b ∧ b ≤ 15) τ x.2) 7 (by omega) ⟨rfl, fun c m hc => by omega, qb_Fr⟩ ?_ ?_
    · rintro k ⟨s1, s2⟩ hk ⟨h1, h2, h3⟩
      dsimp only at h1 h2 h3
      subst h1
      unfold mc_12_4_27_p63
      dsimp only [qa_in]
      rw [if_pos (show nI k < (7 : Int32) from qb_ltT (b := 7) hk (by omega)), qb_n (k := k) (by omega)]
      refine ⟨_, rfl, qb_s, fun c m hc hm => ?_, fun b j h => ?_⟩
      · dsimp only
        by_cases e : c = k
        · subst e
          rw [qb_cpI hm, h3 _ _ (by omega), tF _ _ (by omega)]
        · rw [qb_cpA (by omega)]
          exact h2 c m (by omega) hm
      · dsimp only
        rw [qb_cpA (by omega)]
        exact h3 b j h
    · rintro ⟨s1, s2⟩ ⟨h1, h2, h3⟩
      dsimp only at h1 h2 h3
      subst h1
      unfold mc_12_4_27_p63
      dsimp only [qa_in]
      rw [if_neg (show ¬ nI 7 < (7 : Int32) from qb_ltF (b := 7) (by omega) (by omega))]
      exact ⟨_, rfl, h2, h3⟩
  obtain ⟨lM, lF⟩ := L
  have rF : qb_F (fun b j => (b = 4 ∧ j < 2) ∨ (5 ≤ b ∧ b ≤ 7) ∨ (9 ≤ b ∧ b ≤ 15) ∨ (24 ≤ b ∧ b ≤ 26)) σ ρ := qb_Ft tF lF (fun _ _ h => h) (fun _ _ h => by omega)
  constructor
  · refine qb_call ?_ ?_ (fun c hc => ?_) (fun c hc => ?_) (fun c hc => ?_) (fun c m hc hm => ?_) (fun t ht => ?_) (fun t ht => ?_) (fun t ht => ?_)
    · rw [qb_cpA (by decide), qb_cpA (by decide), qb_cpA (by decide), lF _ _ (by omega)]; exact t0
    · rw [qb_cpA (by decide), qb_cpA (by decide), qb_cpA (by decide), lF _ _ (by omega)]; exact t1
    · unfold qb_gc
      rw [qb_cpA (by decide), qb_cpA (by decide), qb_cpA (by decide), lF _ _ (by omega), qb_cK hc]; exact tK c hc
    · unfold qb_gc
      rw [qb_cpA (by decide), qb_cpA (by decide), qb_cpA (by decide), lF _ _ (by omega), qb_cG hc]; exact tG c hc
    · unfold qb_gc
      rw [qb_cpA (by decide), qb_cpA (by decide), qb_cpA (by decide), lF _ _ (by omega), qb_cS hc]; exact tS c hc
    · unfold qb_gc
      rw [qb_cpA (by omega), qb_cpA (by omega), qb_cpA (by omega), qb_cM hc hm]; exact lM c m hc hm
    · unfold qb_gc
      rw [qb_cO ht]
      show qa_cp _ _ _ _ _ _ 24 t = _
      rw [qb_cpA (by decide), qb_cpA (by decide), qb_cpI ht, rF _ _ (by omega)]
    · unfold qb_gc
      rw [qb_cB ht]
      show qa_cp _ _ _ _ _ _ 25 t = _
      rw [qb_cpA (by decide), qb_cpI ht, qb_cpA (by decide), rF _ _ (by omega)]
    · unfold qb_gc
      rw [qb_cY ht]
      show qa_cp _ _ _ _ _ _ 26 t = _
      rw [qb_cpI ht, qb_cpA (by decide), qb_cpA (by decide), rF _ _ (by omega)]
  · intro b j h
    rw [qb_cpA (by omega), qb_cpA (by omega), qb_cpA (by omega)]
    exact rF b j h
