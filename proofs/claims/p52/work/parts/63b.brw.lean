/-- nothing else is changed -/
def qb_F (w : Nat → Nat → Prop) (σ τ : qa_S) : Prop := ∀ a j, ¬ w a j → τ a j = σ a j
theorem qb_Fr {w : Nat → Nat → Prop} {σ : qa_S} : qb_F w σ σ := fun _ _ _ => rfl
theorem qb_Ft {w u v : Nat → Nat → Prop} {σ τ ρ : qa_S} (h : qb_F u σ τ) (h' : qb_F v τ ρ) (i : ∀ a j, u a j → w a j) (i' : ∀ a j, v a j → w a j) : qb_F w σ ρ := fun a j hj => (h' a j (fun c => hj (i' a j c))).trans (h a j (fun c => hj (i a j c)))
theorem qb_Fw {w u : Nat → Nat → Prop} {σ τ : qa_S} (h : qb_F u σ τ) (i : ∀ a j, u a j → w a j) : qb_F w σ τ := fun a j hj => h a j (fun c => hj (i a j c))
theorem qb_Fu {w : Nat → Nat → Prop} {σ : qa_S} {a j : Nat} {v : Int32} (h : w a j) : qb_F w σ (qa_u σ a j v) := fun b i hb => qb_uN (by
  by_cases e : b = a
  · by_cases e' : i = j
    · subst e e'; exact absurd h hb
    · exact Or.inr e'
  · exact Or.inl e)
section B63
variable {σ : qa_S} {K F : Nat → Int32} {R : Nat → Nat → Int32} {n : Nat}
/-- the class brews all -/
theorem qb_29 {N : Nat} (hN : 10 ≤ N) (hn : n ≤ 7) (h0 : σ 4 0 = nI n) (hK : ∀ c, c < n → σ 5 c = K c) (hF : ∀ c, c < n → σ 6 c = F c) (hR : ∀ c m, c < n → m < 4 → σ (9 + c) m = R c m) : (∀ c m, c < n → m < 4 → ma_29_4 N σ (17 + c) m = qb_T K F R c m) ∧ qb_F (fun a _ => 17 ≤ a ∧ a < 24) σ (ma_29_4 N σ) := by
  unfold ma_29_4 qa_in
  refine qb_l0 (fun (k : Nat) (s : Int32 × qa_S) => s.1 = nI k ∧ (∀ c m, c < k → m < 4 → s.2 (17 + c) m = qb_T K F R c m) ∧ qb_F (fun a _ => 17 ≤ a ∧ a < 24) σ s.2) (fun (x : Int32 × qa_S) => (∀ c m, c < n → m < 4 → x.2 (17 + c) m = qb_T K F R c m) ∧ qb_F (fun a _ => 17 ≤ a ∧ a < 24) σ x.2) n (by omega) ⟨rfl, fun c m hc => by omega, qb_Fr⟩ ?_ ?_
  · rintro k ⟨s1, s2⟩ hk ⟨h1, h2, h3⟩
    dsimp only at h1 h2 h3
    subst h1
    have e0 : s2 4 0 = nI n := (h3 4 0 (by omega)).trans h0
    unfold mc_29_4_p2
    dsimp only
    rw [if_pos (by rw [e0]; exact qb_ltT hk (by omega))]
    unfold qa_in
    refine ⟨_, rfl, qb_s, ?_⟩
    dsimp only
    refine qb_l0 (fun (j : Nat) (s : Int32 × qa_S) => s.1 = nI j ∧ (∀ c m, c < k → m < 4 → s.2 (17 + c) m = qb_T K F R c m) ∧ (∀ m, m < j → s.2 (17 + k) m = qb_T K F R k m) ∧ qb_F (fun a _ => 17 ≤ a ∧ a < 24) σ s.2) (fun (x : Int32 × qa_S) => (∀ c m, c < k + 1 → m < 4 → x.2 (17 + c) m = qb_T K F R c m) ∧ qb_F (fun a _ => 17 ≤ a ∧ a < 24) σ x.2) 4 (by omega) ⟨rfl, h2, fun m hm => by omega, h3⟩ ?_ ?_
    · rintro j ⟨t1, t2⟩ hj ⟨g1, g2, g3, g4⟩
      dsimp only at g1 g2 g3 g4
      subst g1
      unfold mc_29_4_p12
      dsimp only
      rw [if_pos (show nI j < (4 : Int32) from qb_ltT (b := 4) hj (by omega))]
      unfold qa_in
      rw [qb_n (k := k) (by omega), qb_n (k := j) (by omega), qb_30 (by omega) hj ((g4 5 k (by omega)).trans (hK k hk)) ((g4 6 k (by omega)).trans (hF k hk)) ((g4 (9 + k) j (by omega)).trans (hR k j hk hj)) (fun d hd => g2 d j (by omega) hj)]
      refine ⟨_, rfl, qb_s, fun c m hc hm => ?_, fun m hm => ?_, fun a i ha => ?_⟩
      · dsimp only
        rw [qb_uA (by omega)]
        exact g2 c m hc hm
      · dsimp only
        rw [qb_uJ]
        by_cases e : m = j
        · rw [if_pos e, e]
        · rw [if_neg e]
          exact g3 m (by omega)
      · dsimp only
        rw [qb_uA (by omega)]
        exact g4 a i ha
    · rintro ⟨t1, t2⟩ ⟨g1, g2, g3, g4⟩
      dsimp only at g1 g2 g3 g4
      subst g1
      unfold mc_29_4_p12
      dsimp only
      rw [if_neg (show ¬ nI 4 < (4 : Int32) from qb_ltF (b := 4) (by omega) (by omega))]
      refine ⟨_, rfl, fun c m hc hm => ?_, g4⟩
      by_cases e : c = k
      · subst e; exact g3 m hm
      · exact g2 c m (by omega) hm
  · rintro ⟨s1, s2⟩ ⟨h1, h2, h3⟩
    dsimp only at h1 h2 h3
    subst h1
    have e0 : s2 4 0 = nI n := (h3 4 0 (by omega)).trans h0
    unfold mc_29_4_p2
    dsimp only
    rw [if_neg (by rw [e0]; exact qb_ltF (by omega) (by omega))]
    exact ⟨_, rfl, h2, h3⟩
theorem qb_182 {c m : Nat} (hc : c < 7) (hm : m < 4) (hK : σ 100 c = K c) (hF : σ 101 c = F c) (hR : σ 102 (4 * c + m) = R c m) (hp : ∀ d, c = d + 1 → σ 108 (4 * d + m) = qb_T K F R d m) : ma_182_99 (nI c) (nI m) σ = qb_T K F R c m := by
  unfold ma_182_99
  rw [qb_n (by omega), qb_i4 c hc m hm, hK, hF, hR]
  cases c with
  | zero => rfl
  | succ d =>
    rw [qb_i4p d (by omega) m hm, hp d rfl, if_neg (show ¬ nI (d + 1) = 0 from fun h => by have := (qb_eq (a := d + 1) (b := 0) (by omega) (by decide)).mp h; omega)]
    rfl
/-- the reference lays all tastes -/
theorem qb_181 {N : Nat} (hN : 10 ≤ N) (hn : n ≤ 7) (h0 : σ 99 0 = nI n) (hK : ∀ c, c < n → σ 100 c = K c) (hF : ∀ c, c < n → σ 101 c = F c) (hR : ∀ c m, c < n → m < 4 → σ 102 (4 * c + m) = R c m) : (∀ c m, c < n → m < 4 → ma_181_99 N σ 108 (4 * c + m) = qb_T K F R c m) ∧ qb_F (fun a _ => a = 108) σ (ma_181_99 N σ) := by
  unfold ma_181_99 qa_in
  refine qb_l0 (fun (k : Nat) (s : Int32 × qa_S) => s.1 = nI k ∧ (∀ c m, c < k → m < 4 → s.2 108 (4 * c + m) = qb_T K F R c m) ∧ qb_F (fun a _ => a = 108) σ s.2) (fun (x : Int32 × qa_S) => (∀ c m, c < n → m < 4 → x.2 108 (4 * c + m) = qb_T K F R c m) ∧ qb_F (fun a _ => a = 108) σ x.2) n (by omega) ⟨rfl, fun c m hc => by omega, qb_Fr⟩ ?_ ?_
  · rintro k ⟨s1, s2⟩ hk ⟨h1, h2, h3⟩
    dsimp only at h1 h2 h3
    subst h1
    have e0 : s2 99 0 = nI n := (h3 99 0 (by omega)).trans h0
    unfold mc_181_99_p2
    dsimp only
    rw [if_pos (by rw [e0]; exact qb_ltT hk (by omega))]
    unfold qa_in
    refine ⟨_, rfl, qb_s, ?_⟩
    dsimp only
    refine qb_l0 (fun (j : Nat) (s : Int32 × qa_S) => s.1 = nI j ∧ (∀ c m, c < k → m < 4 → s.2 108 (4 * c + m) = qb_T K F R c m) ∧ (∀ m, m < j → s.2 108 (4 * k + m) = qb_T K F R k m) ∧ qb_F (fun a _ => a = 108) σ s.2) (fun (x : Int32 × qa_S) => (∀ c m, c < k + 1 → m < 4 → x.2 108 (4 * c + m) = qb_T K F R c m) ∧ qb_F (fun a _ => a = 108) σ x.2) 4 (by omega) ⟨rfl, h2, fun m hm => by omega, h3⟩ ?_ ?_
    · rintro j ⟨t1, t2⟩ hj ⟨g1, g2, g3, g4⟩
      dsimp only at g1 g2 g3 g4
      subst g1
      unfold mc_181_99_p12
      dsimp only
      rw [if_pos (show nI j < (4 : Int32) from qb_ltT (b := 4) hj (by omega))]
      unfold qa_in
      rw [qb_i4 k (by omega) j hj, qb_182 (by omega) hj ((g4 100 k (by omega)).trans (hK k hk)) ((g4 101 k (by omega)).trans (hF k hk)) ((g4 102 (4 * k + j) (by omega)).trans (hR k j hk hj)) (fun d hd => g2 d j (by omega) hj)]
      refine ⟨_, rfl, qb_s, fun c m hc hm => ?_, fun m hm => ?_, fun a i ha => ?_⟩
      · dsimp only
        rw [qb_uN (by omega)]
        exact g2 c m hc hm
      · dsimp only
        rw [qb_uJ]
        by_cases e : m = j
        · rw [if_pos (by omega), e]
        · rw [if_neg (by omega)]
          exact g3 m (by omega)
      · dsimp only
        rw [qb_uA (by omega)]
        exact g4 a i ha
    · rintro ⟨t1, t2⟩ ⟨g1, g2, g3, g4⟩
      dsimp only at g1 g2 g3 g4
      subst g1
      unfold mc_181_99_p12
      dsimp only
      rw [if_neg (show ¬ nI 4 < (4 : Int32) from qb_ltF (b := 4) (by omega) (by omega))]
      refine ⟨_, rfl, fun c m hc hm => ?_, g4⟩
      by_cases e : c = k
      · subst e; exact g3 m hm
      · exact g2 c m (by omega) hm
  · rintro ⟨s1, s2⟩ ⟨h1, h2, h3⟩
    dsimp only at h1 h2 h3
    subst h1
    have e0 : s2 99 0 = nI n := (h3 99 0 (by omega)).trans h0
    unfold mc_181_99_p2
    dsimp only
    rw [if_neg (by rw [e0]; exact qb_ltF (by omega) (by omega))]
    exact ⟨_, rfl, h2, h3⟩
end B63
