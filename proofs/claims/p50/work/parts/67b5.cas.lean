/-! CASKS AGAINST EACH OTHER: range, nearest, twin, exact, rank, loner -/
section Q5
variable {n t : Nat} {s : Nat → Nat} {T : Nat → Nat → Nat} {o b : Nat → Nat} {σ τ : qa_S} {N : Nat}
theorem qs_113 {a b : Nat} (ha : a < 128) (hb : b < 128) : ma_113 (nI a - nI b) = nI ((a - b) + (b - a)) := by
  unfold ma_113
  by_cases h : b ≤ a
  · rw [qw_sub h, if_neg (qw_n0 (by omega)), show a - b + (b - a) = a - b by omega]
  · have e : nI a - nI b = -(nI (b - a)) := by rw [← qw_sub (by omega)]; exact Int32.neg_sub.symm
    have d : ∀ k, k < 128 → k ≠ 0 → -(nI k) < 0 := by decide
    rw [e, if_pos (d (b - a) (by omega) (by omega)), Int32.neg_neg, show a - b + (b - a) = b - a by omega]
/-- how far -/
def qs_di (x y : Nat → Nat) : Nat := qs_sm (fun m => (x m - y m) + (y m - x m)) 4
theorem qs_dil {x y : Nat → Nat} (hx : ∀ m, m < 4 → x m ≤ 99) (hy : ∀ m, m < 4 → y m ≤ 99) : qs_di x y ≤ 792 := qs_sml (h := 198) (fun k hk => by have := hx k hk; have := hy k hk; omega)
theorem qs_dis {x y : Nat → Nat} : qs_di x y = qs_di y x := qs_smx (fun k _ => Nat.add_comm _ _)
theorem qs_112 (hN : 5 ≤ N) (hB : qv_B n t s T o b) (hC : qv_C n t s T o b σ) {c d : Nat} (hc : c < n) (hd : d < n) : ma_112_4 N (nI c) (nI d) σ = nI (qs_di (T c) (T d)) := by
  have n7 := hB.1
  unfold ma_112_4
  dsimp only [qa_in]
  refine congrArg Prod.snd (qw_lp (e := fun s => s) (fun k (a : Nat) => (nI k, nI a)) (fun a => (nI 4, nI a)) (fun m a => a + ((T c m - T d m) + (T d m - T c m))) 4 0 hN (fun k a hk => ?_) (fun a => ?_))
  · unfold mc_112_4_p5
    dsimp only
    rw [if_pos (show nI k < (4 : Int32) from qb_ltT (b := 4) hk (by omega)), qb_n (k := k) (by omega), qb_n (k := c) (by omega), qb_n (k := d) (by omega), hC.2.2.2.1 c k hc hk, hC.2.2.2.1 d k hd hk, qs_113 (by have := hB.2.2.2.1 c k hc hk; omega) (by have := hB.2.2.2.1 d k hd hk; omega), qb_s, qw_add]
  · unfold mc_112_4_p5
    dsimp only
    rw [if_neg (show ¬ nI 4 < (4 : Int32) by decide)]
/-! the least, the most -/
theorem qs_min (e : Nat → Bool) (X D : Nat → Int32) {n : Nat} (hX : ∀ k, k < n → X k ≠ -9) (hD : ∀ k, k < n → D k < 9999) : (qw_f (fun k (a : Int32 × Int32) => (if e k then a.1 else (if a.1 = -9 then X k else (if D k < a.2 then X k else a.1)), if e k then a.2 else (if a.1 = -9 then D k else (if D k < a.2 then D k else a.2)))) n (-9, 0)).1 = (qw_f (fun k (a : Int32 × Int32) => (if e k then a.1 else (if D k < a.2 then X k else a.1), if e k then a.2 else (if D k < a.2 then D k else a.2))) n (-9, 9999)).1 := by
  have h := qw_f2 (F := fun k (a : Int32 × Int32) => (if e k then a.1 else (if a.1 = -9 then X k else (if D k < a.2 then X k else a.1)), if e k then a.2 else (if a.1 = -9 then D k else (if D k < a.2 then D k else a.2)))) (G := fun k (a : Int32 × Int32) => (if e k then a.1 else (if D k < a.2 then X k else a.1), if e k then a.2 else (if D k < a.2 then D k else a.2))) (a := (-9, 0)) (b := (-9, 9999)) (n := n) (fun _ x y => (x = (-9, 0) ∧ y = (-9, 9999)) ∨ (x = y ∧ x.1 ≠ -9)) (Or.inl ⟨rfl, rfl⟩) (fun k x y hk hxy => ?_)
  · rcases h with ⟨h1, h2⟩ | ⟨h1, h2⟩
    · rw [h1, h2]
    · rw [h1]
  · rcases hxy with ⟨rfl, rfl⟩ | ⟨rfl, h2⟩
    · cases e k
      · refine Or.inr ⟨?_, ?_⟩
        · dsimp only
          simp only [Bool.false_eq_true, ↓reduceIte, hD k hk]
        · simp only [Bool.false_eq_true, ↓reduceIte]
          exact hX k hk
      · exact Or.inl ⟨rfl, rfl⟩
    · cases e k
      · refine Or.inr ⟨?_, ?_⟩
        · simp only [Bool.false_eq_true, ↓reduceIte, h2]
        · simp only [Bool.false_eq_true, ↓reduceIte, h2]
          split
          · exact hX k hk
          · exact h2
      · exact Or.inr ⟨rfl, h2⟩
theorem qw_n9 {k : Nat} (h : k < 2147483648) : nI k ≠ -9 := by
  intro e
  have e2 := congrArg Int32.toInt e
  have e9 : (-9 : Int32).toInt = -9 := by decide
  rw [nI_toInt h] at e2
  omega
theorem qc_139 {xx yy : Prop} (hN : 5000 ≤ N) (hI : qb_I xx yy σ) (x1 : Int32) : (ma_139_3 N x1 σ).1 = (ma_246_99 N x1 (ma_139_3 N x1 σ).2).1 := by
  obtain ⟨n, t, s, T, o, b, B, C, P⟩ := qv_get hI
  have F : qb_F qb_sm2 σ (ma_139_3 N x1 σ).2 := mf_139_3 qb_hw (qb_hm (by omega)) qb_Fr
  suffices h : ∃ v, (ma_139_3 N x1 σ).1 = v ∧ ∀ τ, qv_P n t s T o b (qa_u τ 99 9 0) → (ma_246_99 N x1 τ).1 = v by
    obtain ⟨v, h1, h2⟩ := h
    exact h1.trans (h2 _ (qv_P2 F P)).symm
  have n7 := B.1
  unfold ma_139_3 ma_246_99
  dsimp only [qa_in]
  rcases qw_c n7 x1 with ⟨g1, g2⟩ | ⟨u, hu, rfl, g1, g2⟩
  · rw [if_pos (g1 σ C.1), qb_9_1]
    exact ⟨_, rfl, fun τ hP => by rw [if_pos (g2 _ hP.1)]; rfl⟩
  rw [if_neg (g1 σ C.1)]
  dsimp only
  have eq : ∀ k, k < n → ((nI k = nI u) ↔ (k == u) = true) := fun k hk => by rw [qb_eq (by omega) (by omega), beq_iff_eq]
  have L1 : qa_wh (fun s => s) (mc_139_3_p25 N (nI u) σ) N ((0 : Int32), (-9 : Int32), (0 : Int32)) = (nI n, qw_f (fun k (a : Int32 × Int32) => (if k == u then a.1 else (if a.1 = -9 then nI k else (if nI (qs_di (T u) (T k)) < a.2 then nI k else a.1)), if k == u then a.2 else (if a.1 = -9 then nI (qs_di (T u) (T k)) else (if nI (qs_di (T u) (T k)) < a.2 then nI (qs_di (T u) (T k)) else a.2)))) n (-9, 0)) := by
    refine qw_lp (e := fun s => s) (fun k a => (nI k, a)) (fun a => (nI n, a)) (fun k (a : Int32 × Int32) => (if k == u then a.1 else (if a.1 = -9 then nI k else (if nI (qs_di (T u) (T k)) < a.2 then nI k else a.1)), if k == u then a.2 else (if a.1 = -9 then nI (qs_di (T u) (T k)) else (if nI (qs_di (T u) (T k)) < a.2 then nI (qs_di (T u) (T k)) else a.2)))) n (-9, 0) (by omega) (fun k a hk => ?_) (fun a => ?_)
    · unfold mc_139_3_p25
      dsimp only [qa_in]
      rw [C.1, if_pos (qb_ltT hk (by omega)), qs_112 (by omega) B C hu hk, qb_s]
      by_cases c : nI k = nI u
      · rw [if_pos c, if_pos c, if_pos ((eq k hk).mp c), if_pos ((eq k hk).mp c)]
      · rw [if_neg c, if_neg c, if_neg (fun x => c ((eq k hk).mpr x)), if_neg (fun x => c ((eq k hk).mpr x))]
    · unfold mc_139_3_p25
      dsimp only
      rw [C.1, if_neg (qb_ltF (Nat.le_refl n) (by omega))]
  rw [L1]
  refine ⟨_, rfl, fun τ hP => ?_⟩
  have R := (qv_181 (N := N) (by omega) n7 hP).1
  obtain ⟨ρ, eρ⟩ : ∃ ρ, ρ = ma_181_99 N (qa_u τ 99 9 0) := ⟨_, rfl⟩
  rw [← eρ] at R ⊢
  rw [if_neg (g2 _ hP.1)]
  dsimp only
  have Z : ∀ k (a : Int32 × Int32), k < n → qa_wh (fun s => s) (mc_246_99_p48 N (nI u) a.1 a.2 (nI k) ρ) N ((0 : Int32), (0 : Int32)) = (nI 4, nI (qs_di (T u) (T k))) := by
    intro k a hk
    rw [qs_dis]
    refine qw_lp (e := fun s => s) (fun j (a : Nat) => (nI j, nI a)) (fun a => (nI 4, nI a)) (fun m a => a + ((T k m - T u m) + (T u m - T k m))) 4 0 (by omega) (fun j a hj => ?_) (fun a => ?_)
    · unfold mc_246_99_p48
      dsimp only
      rw [if_pos (show nI j < (4 : Int32) from qb_ltT (b := 4) hj (by omega)), qb_i4 k (by omega) j hj, qb_i4 u (by omega) j hj, R.2.2.2.2 k j hk hj, R.2.2.2.2 u j hu hj, show ∀ x, ma_227 x = ma_113 x from fun _ => rfl, qs_113 (by have := B.2.2.2.1 k j hk hj; omega) (by have := B.2.2.2.1 u j hu hj; omega), qb_s, qw_add]
    · unfold mc_246_99_p48
      dsimp only
      rw [if_neg (show ¬ nI 4 < (4 : Int32) by decide)]
  have L2 : qa_wh (fun s => s) (mc_246_99_p33 N (nI u) ρ) N ((0 : Int32), (-9 : Int32), (9999 : Int32)) = (nI n, qw_f (fun k (a : Int32 × Int32) => (if k == u then a.1 else (if nI (qs_di (T u) (T k)) < a.2 then nI k else a.1), if k == u then a.2 else (if nI (qs_di (T u) (T k)) < a.2 then nI (qs_di (T u) (T k)) else a.2))) n (-9, 9999)) := by
    refine qw_lp (e := fun s => s) (fun k a => (nI k, a)) (fun a => (nI n, a)) (fun k (a : Int32 × Int32) => (if k == u then a.1 else (if nI (qs_di (T u) (T k)) < a.2 then nI k else a.1), if k == u then a.2 else (if nI (qs_di (T u) (T k)) < a.2 then nI (qs_di (T u) (T k)) else a.2))) n (-9, 9999) (by omega) (fun k a hk => ?_) (fun a => ?_)
    · unfold mc_246_99_p33
      dsimp only [qa_in]
      rw [R.1, if_pos (qb_ltT hk (by omega)), Z k a hk, qb_s]
      by_cases c : nI k = nI u
      · rw [if_pos c, if_pos c, if_pos ((eq k hk).mp c), if_pos ((eq k hk).mp c)]
      · rw [if_neg c, if_neg c, if_neg (fun x => c ((eq k hk).mpr x)), if_neg (fun x => c ((eq k hk).mpr x))]
    · unfold mc_246_99_p33
      dsimp only
      rw [R.1, if_neg (qb_ltF (Nat.le_refl n) (by omega))]
  rw [L2]
  exact (qs_min (fun k => k == u) (fun k => nI k) (fun k => nI (qs_di (T u) (T k))) (fun k hk => qw_n9 (by omega)) (fun k hk => qb_ltT (b := 9999) (by have := qs_dil (x := T u) (y := T k) (fun m hm => B.2.2.2.1 u m hu hm) (fun m hm => B.2.2.2.1 k m hk hm); omega) (by omega))).symm
end Q5
