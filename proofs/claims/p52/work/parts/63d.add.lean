/-! casks and tasters come -/
theorem qb_20_4 {σ : qa_S} {V : Nat → Int32} {u N : Nat} {k f z : Int32} (hN : 10 ≤ N) (hu : u < 7) (h0 : σ 4 0 = nI u) (hV : ∀ i, i < 69 → qb_gc 4 σ i = V i) : (∀ i, i < 69 → qb_gc 4 (ma_20_4 N k f z σ) i = qb_addC V u k f z i) ∧ qb_F (fun b j => (b = 4 ∧ j = 0) ∨ (5 ≤ b ∧ b ≤ 7) ∨ (9 ≤ b ∧ b ≤ 9 + 6)) σ (ma_20_4 N k f z σ) := by
  obtain ⟨n, rfl⟩ : ∃ n, N = n + 5 := ⟨N - 5, by omega⟩
  unfold ma_20_4
  rw [if_pos (by rw [h0]; exact qb_ltT (b := 7) hu (by omega))]
  dsimp only [qa_in]
  rw [h0, qb_n (k := u) (by omega)]
  have c1 : ∀ {x y z : Int32}, qa_u σ 5 u x 4 0 = nI u := by intros; rw [qb_uA (by omega)]; exact h0
  have c2 : ∀ {x y : Int32}, qa_u (qa_u σ 5 u x) 6 u y 4 0 = nI u := by intros; rw [qb_uA (by omega), qb_uA (by omega)]; exact h0
  rw [c1 (y := 0) (z := 0), qb_n (k := u) (by omega), c2, qb_n (k := u) (by omega)]
  obtain ⟨τ, eτ⟩ : ∃ τ, τ = qa_u (qa_u (qa_u σ 5 u k) 6 u f) 7 u (0 : Int32) := ⟨_, rfl⟩
  rw [← eτ]
  have t0 : τ 4 0 = nI u := by rw [eτ, qb_uA (by omega)]; exact c2
  have hτ : ∀ i, i < 69 → qb_gc 4 τ i = qb_set (qb_set (qb_set V (2 + 3 * u) k) (3 + 3 * u) f) (4 + 3 * u) 0 i := by rw [eτ]; exact qb_cs (qb_cs (qb_cs hV (by omega) (qb_cK hu)) (by omega) (qb_cG hu)) (by omega) (qb_cS hu)
  have fτ : qb_F (fun b j => (b = 4 ∧ j = 0) ∨ (5 ≤ b ∧ b ≤ 7) ∨ (9 ≤ b ∧ b ≤ 9 + 6)) σ τ := by
    rw [eτ]
    intro b j h
    rw [qb_uA (by omega), qb_uA (by omega), qb_uA (by omega)]
  have st : ∀ (v : Int32) (j : Nat) (w : Int32) (ρ : qa_S), (v < 0 ↔ False) → v.toNatClampNeg = j → ρ 4 0 = nI u → mc_20_4_p46 (n + 5) (v, w, ρ) = .inl (v + (-1 : Int32), w / 10, qa_u ρ (9 + u) j (w - w / 10 * 10)) := by
    intro v j w ρ h1 h2 h3
    unfold mc_20_4_p46
    dsimp only
    rw [if_neg (fun h => h1.mp h), h2, h3, qb_n (k := u) (by omega)]
    rfl
  rw [qa_whl (st 3 3 z τ (by decide) (by decide) t0)]
  have t1 : ∀ {j : Nat} {x : Int32} {ρ : qa_S}, ρ 4 0 = nI u → qa_u ρ (9 + u) j x 4 0 = nI u := fun h => by rw [qb_uA (by omega)]; exact h
  rw [qa_whl (st (3 + (-1 : Int32)) 2 _ _ (by decide) (by decide) (t1 t0)), qa_whl (st (3 + (-1 : Int32) + (-1 : Int32)) 1 _ _ (by decide) (by decide) (t1 (t1 t0))), qa_whl (st (3 + (-1 : Int32) + (-1 : Int32) + (-1 : Int32)) 0 _ _ (by decide) (by decide) (t1 (t1 (t1 t0))))]
  rw [qa_whr (b := (3 + (-1 : Int32) + (-1 : Int32) + (-1 : Int32) + (-1 : Int32), z / 10 / 10 / 10 / 10, qa_u (qa_u (qa_u (qa_u τ (9 + u) 3 (z - z / 10 * 10)) (9 + u) 2 (z / 10 - z / 10 / 10 * 10)) (9 + u) 1 (z / 10 / 10 - z / 10 / 10 / 10 * 10)) (9 + u) 0 (z / 10 / 10 / 10 - z / 10 / 10 / 10 / 10 * 10))) (by unfold mc_20_4_p46; dsimp only; rw [if_pos (by decide)])]
  dsimp only
  rw [t1 (t1 (t1 (t1 t0))), qb_s]
  constructor
  · exact qb_cs (qb_cs (qb_cs (qb_cs (qb_cs hτ (by omega) (qb_cM hu (by omega))) (by omega) (qb_cM hu (by omega))) (by omega) (qb_cM hu (by omega))) (by omega) (qb_cM hu (by omega))) (by omega) qb_c0
  · intro b j h
    rw [qb_uN (by omega), qb_uA (by omega), qb_uA (by omega), qb_uA (by omega), qb_uA (by omega)]
    exact fτ b j h
theorem qb_24_4 {σ : qa_S} {V : Nat → Int32} {u : Nat} {k f z : Int32} (hu : u < 6) (h0 : σ 4 1 = nI u) (hV : ∀ i, i < 69 → qb_gc 4 σ i = V i) : (∀ i, i < 69 → qb_gc 4 (ma_24_4 k f z σ) i = qb_addT V u k f z i) ∧ qb_F (fun b j => (b = 4 ∧ j = 1) ∨ (24 ≤ b ∧ b ≤ 26)) σ (ma_24_4 k f z σ) := by
  unfold ma_24_4
  rw [if_pos (by rw [h0]; exact qb_ltT (b := 6) hu (by omega))]
  dsimp only [qa_in]
  rw [h0, qb_n (k := u) (by omega)]
  have c1 : qa_u σ 24 u k 4 1 = nI u := by rw [qb_uA (by omega)]; exact h0
  have c2 : qa_u (qa_u σ 24 u k) 25 u f 4 1 = nI u := by rw [qb_uA (by omega)]; exact c1
  have c3 : qa_u (qa_u (qa_u σ 24 u k) 25 u f) 26 u z 4 1 = nI u := by rw [qb_uA (by omega)]; exact c2
  rw [c1, qb_n (k := u) (by omega), c2, qb_n (k := u) (by omega), c3, qb_s]
  constructor
  · exact qb_cs (qb_cs (qb_cs (qb_cs hV (by omega) (qb_cO hu)) (by omega) (qb_cB hu)) (by omega) (qb_cY hu)) (by omega) qb_c1
  · intro b j h
    rw [qb_uN (by omega), qb_uA (by omega), qb_uA (by omega), qb_uA (by omega)]
theorem qb_20_50 {σ : qa_S} {V : Nat → Int32} {u N : Nat} {k f z : Int32} (hN : 10 ≤ N) (hu : u < 7) (h0 : σ 50 0 = nI u) (hV : ∀ i, i < 69 → qb_gc 50 σ i = V i) : (∀ i, i < 69 → qb_gc 50 (ma_20_50 N k f z σ) i = qb_addC V u k f z i) ∧ qb_F (fun b j => (b = 50 ∧ j = 0) ∨ (51 ≤ b ∧ b ≤ 53) ∨ (55 ≤ b ∧ b ≤ 55 + 6)) σ (ma_20_50 N k f z σ) := by
  obtain ⟨n, rfl⟩ : ∃ n, N = n + 5 := ⟨N - 5, by omega⟩
  unfold ma_20_50
  rw [if_pos (by rw [h0]; exact qb_ltT (b := 7) hu (by omega))]
  dsimp only [qa_in]
  rw [h0, qb_n (k := u) (by omega)]
  have c1 : ∀ {x y z : Int32}, qa_u σ 51 u x 50 0 = nI u := by intros; rw [qb_uA (by omega)]; exact h0
  have c2 : ∀ {x y : Int32}, qa_u (qa_u σ 51 u x) 52 u y 50 0 = nI u := by intros; rw [qb_uA (by omega), qb_uA (by omega)]; exact h0
  rw [c1 (y := 0) (z := 0), qb_n (k := u) (by omega), c2, qb_n (k := u) (by omega)]
  obtain ⟨τ, eτ⟩ : ∃ τ, τ = qa_u (qa_u (qa_u σ 51 u k) 52 u f) 53 u (0 : Int32) := ⟨_, rfl⟩
  rw [← eτ]
  have t0 : τ 50 0 = nI u := by rw [eτ, qb_uA (by omega)]; exact c2
  have hτ : ∀ i, i < 69 → qb_gc 50 τ i = qb_set (qb_set (qb_set V (2 + 3 * u) k) (3 + 3 * u) f) (4 + 3 * u) 0 i := by rw [eτ]; exact qb_cs (qb_cs (qb_cs hV (by omega) (qb_cK hu)) (by omega) (qb_cG hu)) (by omega) (qb_cS hu)
  have fτ : qb_F (fun b j => (b = 50 ∧ j = 0) ∨ (51 ≤ b ∧ b ≤ 53) ∨ (55 ≤ b ∧ b ≤ 55 + 6)) σ τ := by
    rw [eτ]
    intro b j h
    rw [qb_uA (by omega), qb_uA (by omega), qb_uA (by omega)]
  have st : ∀ (v : Int32) (j : Nat) (w : Int32) (ρ : qa_S), (v < 0 ↔ False) → v.toNatClampNeg = j → ρ 50 0 = nI u → mc_20_50_p46 (n + 5) (v, w, ρ) = .inl (v + (-1 : Int32), w / 10, qa_u ρ (55 + u) j (w - w / 10 * 10)) := by
    intro v j w ρ h1 h2 h3
    unfold mc_20_50_p46
    dsimp only
    rw [if_neg (fun h => h1.mp h), h2, h3, qb_n (k := u) (by omega)]
    rfl
  rw [qa_whl (st 3 3 z τ (by decide) (by decide) t0)]
  have t1 : ∀ {j : Nat} {x : Int32} {ρ : qa_S}, ρ 50 0 = nI u → qa_u ρ (55 + u) j x 50 0 = nI u := fun h => by rw [qb_uA (by omega)]; exact h
  rw [qa_whl (st (3 + (-1 : Int32)) 2 _ _ (by decide) (by decide) (t1 t0)), qa_whl (st (3 + (-1 : Int32) + (-1 : Int32)) 1 _ _ (by decide) (by decide) (t1 (t1 t0))), qa_whl (st (3 + (-1 : Int32) + (-1 : Int32) + (-1 : Int32)) 0 _ _ (by decide) (by decide) (t1 (t1 (t1 t0))))]
  rw [qa_whr (b := (3 + (-1 : Int32) + (-1 : Int32) + (-1 : Int32) + (-1 : Int32), z / 10 / 10 / 10 / 10, qa_u (qa_u (qa_u (qa_u τ (55 + u) 3 (z - z / 10 * 10)) (55 + u) 2 (z / 10 - z / 10 / 10 * 10)) (55 + u) 1 (z / 10 / 10 - z / 10 / 10 / 10 * 10)) (55 + u) 0 (z / 10 / 10 / 10 - z / 10 / 10 / 10 / 10 * 10))) (by unfold mc_20_50_p46; dsimp only; rw [if_pos (by decide)])]
  dsimp only
  rw [t1 (t1 (t1 (t1 t0))), qb_s]
  constructor
  · exact qb_cs (qb_cs (qb_cs (qb_cs (qb_cs hτ (by omega) (qb_cM hu (by omega))) (by omega) (qb_cM hu (by omega))) (by omega) (qb_cM hu (by omega))) (by omega) (qb_cM hu (by omega))) (by omega) qb_c0
  · intro b j h
    rw [qb_uN (by omega), qb_uA (by omega), qb_uA (by omega), qb_uA (by omega), qb_uA (by omega)]
    exact fτ b j h
theorem qb_24_50 {σ : qa_S} {V : Nat → Int32} {u : Nat} {k f z : Int32} (hu : u < 6) (h0 : σ 50 1 = nI u) (hV : ∀ i, i < 69 → qb_gc 50 σ i = V i) : (∀ i, i < 69 → qb_gc 50 (ma_24_50 k f z σ) i = qb_addT V u k f z i) ∧ qb_F (fun b j => (b = 50 ∧ j = 1) ∨ (70 ≤ b ∧ b ≤ 72)) σ (ma_24_50 k f z σ) := by
  unfold ma_24_50
  rw [if_pos (by rw [h0]; exact qb_ltT (b := 6) hu (by omega))]
  dsimp only [qa_in]
  rw [h0, qb_n (k := u) (by omega)]
  have c1 : qa_u σ 70 u k 50 1 = nI u := by rw [qb_uA (by omega)]; exact h0
  have c2 : qa_u (qa_u σ 70 u k) 71 u f 50 1 = nI u := by rw [qb_uA (by omega)]; exact c1
  have c3 : qa_u (qa_u (qa_u σ 70 u k) 71 u f) 72 u z 50 1 = nI u := by rw [qb_uA (by omega)]; exact c2
  rw [c1, qb_n (k := u) (by omega), c2, qb_n (k := u) (by omega), c3, qb_s]
  constructor
  · exact qb_cs (qb_cs (qb_cs (qb_cs hV (by omega) (qb_cO hu)) (by omega) (qb_cB hu)) (by omega) (qb_cY hu)) (by omega) qb_c1
  · intro b j h
    rw [qb_uN (by omega), qb_uA (by omega), qb_uA (by omega), qb_uA (by omega)]
theorem qb_162 {σ : qa_S} {V : Nat → Int32} {u N : Nat} {k f z : Int32} (hN : 10 ≤ N) (hu : u < 7) (h0 : σ 99 0 = nI u) (hV : ∀ i, i < 69 → qb_gm σ i = V i) : (∀ i, i < 69 → qb_gm (ma_162_99 N k f z σ) i = qb_addC V u k f z i) ∧ qb_F (fun b j => (b = 99 ∧ j = 0) ∨ (100 ≤ b ∧ b ≤ 103)) σ (ma_162_99 N k f z σ) := by
  obtain ⟨n, rfl⟩ : ∃ n, N = n + 5 := ⟨N - 5, by omega⟩
  unfold ma_162_99
  dsimp only [qa_in]
  rw [h0, qb_n (k := u) (by omega)]
  have c1 : qa_u σ 100 u k 99 0 = nI u := by rw [qb_uA (by omega)]; exact h0
  have c2 : qa_u (qa_u σ 100 u k) 101 u f 99 0 = nI u := by rw [qb_uA (by omega)]; exact c1
  rw [c1, qb_n (k := u) (by omega), c2, qb_n (k := u) (by omega)]
  obtain ⟨τ, eτ⟩ : ∃ τ, τ = qa_u (qa_u (qa_u σ 100 u k) 101 u f) 103 u (0 : Int32) := ⟨_, rfl⟩
  rw [← eτ]
  have t0 : τ 99 0 = nI u := by rw [eτ, qb_uA (by omega)]; exact c2
  have hτ : ∀ i, i < 69 → qb_gm τ i = qb_set (qb_set (qb_set V (2 + 3 * u) k) (3 + 3 * u) f) (4 + 3 * u) 0 i := by rw [eτ]; exact qb_ms (qb_ms (qb_ms hV (by omega) (qb_mK u hu)) (by omega) (qb_mG u hu)) (by omega) (qb_mS u hu)
  have fτ : qb_F (fun b j => (b = 99 ∧ j = 0) ∨ (100 ≤ b ∧ b ≤ 103)) σ τ := by
    rw [eτ]
    intro b j h
    rw [qb_uA (by omega), qb_uA (by omega), qb_uA (by omega)]
  have st : ∀ (j : Nat) (w : Int32) (ρ : qa_S), j < 4 → ρ 99 0 = nI u → mc_162_99_p36 (n + 5) (nI j, w, ρ) = .inl (nI j + (-1 : Int32), w / 10, qa_u ρ 102 (4 * u + j) (w - w / 10 * 10)) := by
    intro j w ρ h1 h3
    unfold mc_162_99_p36
    dsimp only
    rw [if_neg (show ¬ nI j < (0 : Int32) from qb_ltF (b := 0) (by omega) (by omega)), h3, qb_i4 u hu j h1]
    rfl
  have t1 : ∀ {j : Nat} {x : Int32} {ρ : qa_S}, ρ 99 0 = nI u → qa_u ρ 102 j x 99 0 = nI u := fun h => by rw [qb_uA (by omega)]; exact h
  rw [qa_whl (s := (3, z, τ)) (st 3 z τ (by decide) t0), show nI 3 + (-1 : Int32) = nI 2 by decide, qa_whl (st 2 _ _ (by decide) (t1 t0)), show nI 2 + (-1 : Int32) = nI 1 by decide, qa_whl (st 1 _ _ (by decide) (t1 (t1 t0))), show nI 1 + (-1 : Int32) = nI 0 by decide, qa_whl (st 0 _ _ (by decide) (t1 (t1 (t1 t0))))]
  rw [qa_whr (b := (nI 0 + (-1 : Int32), z / 10 / 10 / 10 / 10, qa_u (qa_u (qa_u (qa_u τ 102 (4 * u + 3) (z - z / 10 * 10)) 102 (4 * u + 2) (z / 10 - z / 10 / 10 * 10)) 102 (4 * u + 1) (z / 10 / 10 - z / 10 / 10 / 10 * 10)) 102 (4 * u + 0) (z / 10 / 10 / 10 - z / 10 / 10 / 10 / 10 * 10))) (by unfold mc_162_99_p36; dsimp only; rw [if_pos (by decide)])]
  dsimp only
  rw [t1 (t1 (t1 (t1 t0))), qb_s]
  constructor
  · exact qb_ms (qb_ms (qb_ms (qb_ms (qb_ms hτ (by omega) (qb_mM u hu _ (by omega))) (by omega) (qb_mM u hu _ (by omega))) (by omega) (qb_mM u hu _ (by omega))) (by omega) (qb_mM u hu _ (by omega))) (by omega) qb_m0
  · intro b j h
    rw [qb_uN (by omega), qb_uA (by omega), qb_uA (by omega), qb_uA (by omega), qb_uA (by omega)]
    exact fτ b j h
theorem qb_164 {σ : qa_S} {V : Nat → Int32} {u : Nat} {k f z : Int32} (hu : u < 6) (h0 : σ 99 5 = nI u) (hV : ∀ i, i < 69 → qb_gm σ i = V i) : (∀ i, i < 69 → qb_gm (ma_164_99 k f z σ) i = qb_addT V u k f z i) ∧ qb_F (fun b j => (b = 99 ∧ j = 5) ∨ (104 ≤ b ∧ b ≤ 106)) σ (ma_164_99 k f z σ) := by
  unfold ma_164_99
  dsimp only [qa_in]
  rw [h0, qb_n (k := u) (by omega)]
  have c1 : qa_u σ 104 u k 99 5 = nI u := by rw [qb_uA (by omega)]; exact h0
  have c2 : qa_u (qa_u σ 104 u k) 105 u f 99 5 = nI u := by rw [qb_uA (by omega)]; exact c1
  have c3 : qa_u (qa_u (qa_u σ 104 u k) 105 u f) 106 u z 99 5 = nI u := by rw [qb_uA (by omega)]; exact c2
  rw [c1, qb_n (k := u) (by omega), c2, qb_n (k := u) (by omega), c3, qb_s]
  constructor
  · exact qb_ms (qb_ms (qb_ms (qb_ms hV (by omega) (qb_mO u hu)) (by omega) (qb_mB u hu)) (by omega) (qb_mY u hu)) (by omega) qb_m1
  · intro b j h
    rw [qb_uN (by omega), qb_uA (by omega), qb_uA (by omega), qb_uA (by omega)]
