/-! CALLS BY GLASSES: the best of some (tellsMost, duo), guess, alikeGlasses, pour -/
/-- the best so far: none, or who and how many -/
def qs_bE : Option (Fin 100 × Int32) → Int32 × Int32
  | none => (-9, -9)
  | some p => (nI p.1.val, p.2)
def qs_bS (x : Fin 100) (d : Int32) : Option (Fin 100 × Int32) → Option (Fin 100 × Int32)
  | none => some (x, d)
  | some p => if d < p.2 then some (x, d) else some p
theorem qs_bC (x : Fin 100) (d : Int32) (a : Option (Fin 100 × Int32)) : (if (qs_bE a).1 = -9 then nI x.val else (if d < (qs_bE a).2 then nI x.val else (qs_bE a).1), if (qs_bE a).1 = -9 then d else (if d < (qs_bE a).2 then d else (qs_bE a).2)) = qs_bE (qs_bS x d a) := by
  cases a with
  | none => rfl
  | some p =>
    have h : ¬ nI p.1.val = -9 := qw_n9 (by omega)
    show ((if nI p.1.val = -9 then nI x.val else (if d < p.2 then nI x.val else nI p.1.val), if nI p.1.val = -9 then d else (if d < p.2 then d else p.2)) : Int32 × Int32) = qs_bE (if d < p.2 then some (x, d) else some p)
    rw [if_neg h, if_neg h]
    by_cases c : d < p.2
    · rw [if_pos c, if_pos c, if_pos c]; rfl
    · rw [if_neg c, if_neg c, if_neg c]; rfl
theorem qs_bR (x : Fin 100) (d : Int32) (a : Option (Fin 100 × Int32)) : (if (if (qs_bE a).1 < 0 then (1 : Int32) else (if d < (qs_bE a).2 then 1 else 0)) = 0 then (qs_bE a).1 else nI x.val, if (if (qs_bE a).1 < 0 then (1 : Int32) else (if d < (qs_bE a).2 then 1 else 0)) = 0 then (qs_bE a).2 else d) = qs_bE (qs_bS x d a) := by
  cases a with
  | none => rfl
  | some p =>
    have h : ¬ nI p.1.val < 0 := qw_n0 (by omega)
    show ((if (if nI p.1.val < 0 then (1 : Int32) else (if d < p.2 then 1 else 0)) = 0 then nI p.1.val else nI x.val, if (if nI p.1.val < 0 then (1 : Int32) else (if d < p.2 then 1 else 0)) = 0 then p.2 else d) : Int32 × Int32) = qs_bE (if d < p.2 then some (x, d) else some p)
    rw [if_neg h]
    by_cases c : d < p.2
    · rw [if_pos c, if_pos c]; rfl
    · rw [if_neg c, if_neg c]; rfl
/-- a loop over all two, that writes besides -/
theorem qw_prm {A R : Type} {enc : A → qa_S → R} {so : Int32 × R → (Int32 × R) ⊕ (Int32 × R)} {si : Nat → Int32 × R → (Int32 × R) ⊕ (Int32 × R)} {e1 e2 : Int32 × R → Int32 × R} (W : qa_S → Prop) (F : Nat → Nat → A → A) (n : Nat) {N : Nat} (hn : n ≤ 7) (hN : 10 ≤ N) (ho : ∀ i a m, i < n → W m → so (nI i, enc a m) = .inl (nI (i + 1), (qa_wh e2 (si i) N (nI i + 1, enc a m)).2)) (hoe : ∀ a m, W m → so (nI n, enc a m) = .inr (nI n, enc a m)) (hi : ∀ i j a m, i < j → j < n → W m → ∃ m', si i (nI j, enc a m) = .inl (nI (j + 1), enc (F i j a) m') ∧ W m') (hie : ∀ i a m, W m → si i (nI n, enc a m) = .inr (nI n, enc a m)) (a : A) (m0 : qa_S) (h0 : W m0) : ∃ m, qa_wh e1 so N (0, enc a m0) = (nI n, enc (qs_pf n F a) m) ∧ W m := by
  refine qw_lm W (fun k a m => (nI k, enc a m)) (fun a m => (nI n, enc a m)) (fun i x => qw_f (fun j y => F i (i + 1 + j) y) (n - (i + 1)) x) n a m0 (by omega) h0 (fun i x m hi1 hm => ?_) (fun x m hm => ⟨m, hoe x m hm, hm⟩)
  obtain ⟨m', e, hm'⟩ := qw_lm (e := e2) (step := si i) (N := N) W (fun j y m => (nI (i + 1 + j), enc y m)) (fun y m => (nI n, enc y m)) (fun j y => F i (i + 1 + j) y) (n - (i + 1)) x m (by omega) hm (fun j y m hj hm => by
    obtain ⟨m', e, hm'⟩ := hi i (i + 1 + j) y m (by omega) (by omega) hm
    exact ⟨m', by rw [e]; rfl, hm'⟩) (fun y m hm => ⟨m, by rw [show i + 1 + (n - (i + 1)) = n by omega]; exact hie i y m hm, hm⟩)
  refine ⟨m', ?_, hm'⟩
  rw [ho i x m hi1 hm, qb_s]
  have e' : qa_wh e2 (si i) N (nI (i + 1), enc x m) = _ := e
  rw [e']
section QO
variable {n t : Nat} {x s : Nat → Nat} {T : Nat → Nat → Nat} {o b : Nat → Nat} {σ τ : qa_S} {N : Nat}
/-- how many fit by some -/
def qs_fc (n t : Nat) (s : Nat → Nat) (T : Nat → Nat → Nat) (o b : Nat → Nat) (w : Nat) : Int32 := nI (qs_cn n (qs_fb n t T o b (qs_gl n s T) w))
theorem qs_2i {i j t : Nat} (ht : t ≤ 6) (hij : i < j) (hj : j < t) : 2 ^ i ||| 2 ^ j < 2 ^ t := Nat.or_lt_two_pow (Nat.pow_lt_pow_right (by omega) (by omega)) (Nat.pow_lt_pow_right (by omega) hj)
theorem qc_122 {xx : Prop} (hN : 5000 ≤ N) (hI : qb_I xx True σ) (hk : qk_M σ) (x1 : Int32) : (ma_122_3 N x1 σ).1 = (ma_234_99 N x1 (ma_122_3 N x1 σ).2).1 := by
  obtain ⟨n, t, s, T, o, b, B, C, P⟩ := qv_get hI
  have F : qb_F qb_sm2 σ (ma_122_3 N x1 σ).2 := mf_122_3 qb_hw (qb_hm (by omega)) qb_Fr
  suffices h : ∃ v, (ma_122_3 N x1 σ).1 = v ∧ ∀ τ, qv_P n t s T o b (qa_u τ 99 9 0) → (ma_234_99 N x1 τ).1 = v by
    obtain ⟨v, h1, h2⟩ := h
    exact h1.trans (h2 _ (qv_P2 F P)).symm
  have n7 := B.1
  have t6 := B.2.1
  have w64 := qs_2t t6
  unfold ma_122_3 ma_234_99
  dsimp only [qa_in]
  rcases qw_w x1 with ⟨w1, w2, -⟩ | ⟨-, w1, w2⟩
  · rw [if_pos w1, qb_9_2]
    exact ⟨_, rfl, fun τ hP => by rw [if_pos w2]; rfl⟩
  rw [if_neg w1]
  obtain ⟨G, eG⟩ : ∃ G : Nat → Nat → Option (Fin 100 × Int32) → Option (Fin 100 × Int32), G = fun i j a => qs_bS ⟨(10 * i + j) % 100, by omega⟩ (qs_fc n t s T o b (2 ^ i ||| 2 ^ j)) a := ⟨_, rfl⟩
  obtain ⟨m, e1, -⟩ := qw_prm (e1 := fun s => s) (so := mc_122_3_p23 N x1) (enc := fun a m => ((qs_bE a).1, (qs_bE a).2, m)) (si := fun i => mc_122_3_p41 N x1 (nI i)) (e2 := fun s => s) (N := N) (fun m => qv_C n t s T o b m ∧ qk_M m) G t (by omega) (by omega) (fun i a m hi hm => by
    unfold mc_122_3_p23
    dsimp only [qa_in]
    rw [if_pos (qw_ltT hm.1.2.1 hi (by omega)), qb_s]) (fun a m hm => by
    unfold mc_122_3_p23
    dsimp only
    rw [if_neg (qw_ltF hm.1.2.1 (by omega))]) (fun i j a m hij hj hm => by
    have hw2 := qs_2i t6 hij hj
    obtain ⟨j1, Z2, -⟩ := qs_87 (N := N) (w := 2 ^ i ||| 2 ^ j) hN B hm.1 hm.2 (by omega)
    refine ⟨(ma_87_3 N (nI (2 ^ i ||| 2 ^ j)) m).2, ?_, Z2.1, Z2.2.2.2.1⟩
    unfold mc_122_3_p41
    dsimp only [qa_in]
    have e := qs_bC ⟨(10 * i + j) % 100, by omega⟩ (qs_fc n t s T o b (2 ^ i ||| 2 ^ j)) a
    rw [show (⟨(10 * i + j) % 100, by omega⟩ : Fin 100).val = 10 * i + j from Nat.mod_eq_of_lt (by omega)] at e
    rw [if_pos (qw_ltT hm.1.2.1 hj (by omega)), qw_sh i (by omega), qw_sh j (by omega), qw_or, j1, qb_s, qw_tn, eG]
    dsimp only
    rw [← e]
    rfl) (fun i a m hm => by
    unfold mc_122_3_p41
    dsimp only
    rw [if_neg (qw_ltF hm.1.2.1 (by omega))]) none σ ⟨C, hk⟩
  have e1' : qa_wh (fun s => s) (mc_122_3_p23 N x1) N ((0 : Int32), (-9 : Int32), (-9 : Int32), σ) = _ := e1
  rw [e1']
  refine ⟨_, rfl, fun τ hP => ?_⟩
  rw [if_neg w2]
  obtain ⟨R, A, -⟩ := qs_194 (N := N) hN B hP
  obtain ⟨ρ, eρ⟩ : ∃ ρ, ρ = ma_194_99 N (qa_u τ 99 9 0) := ⟨_, rfl⟩
  rw [← eρ] at R A ⊢
  have D := qw_pr (e1 := fun s => s) (so := mc_234_99_p35 N x1 ρ) (enc := qs_bE) (si := fun i => mc_234_99_p50 N x1 (nI i) ρ) (e2 := fun s => s) G t (N := N) (by omega) (by omega) (fun i x hi => ?_) (fun x => ?_) (fun i j a hij hj => ?_) (fun i x => ?_) none
  · have D' : qa_wh (fun s => s) (mc_234_99_p35 N x1 ρ) N ((0 : Int32), (-9 : Int32), (-9 : Int32)) = _ := D
    rw [D']
  · unfold mc_234_99_p35
    dsimp only [qa_in]
    rw [if_pos (qw_ltT R.2.1 hi (by omega)), qb_s]
  · unfold mc_234_99_p35
    dsimp only
    rw [if_neg (qw_ltF R.2.1 (by omega))]
  · unfold mc_234_99_p50
    dsimp only [qa_in]
    have e := qs_bR ⟨(10 * i + j) % 100, by omega⟩ (qs_fc n t s T o b (2 ^ i ||| 2 ^ j)) a
    rw [show (⟨(10 * i + j) % 100, by omega⟩ : Fin 100).val = 10 * i + j from Nat.mod_eq_of_lt (by omega)] at e
    rw [if_pos (qw_ltT R.2.1 hj (by omega)), qw_sh i (by omega), qw_sh j (by omega), qw_or, qs_199 hN B R.1 A (qs_2i t6 hij hj), qb_s, qw_tn, eG]
    dsimp only
    rw [← e]
    rfl
  · unfold mc_234_99_p50
    dsimp only
    rw [if_neg (qw_ltF R.2.1 (by omega))]
/-! guess -/
/-! alikeGlasses, pour: a taster thought -/
end QO
