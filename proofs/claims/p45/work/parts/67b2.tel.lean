/-! TELLING, MIXING: values by natural numbers -/
theorem qw_z {a : Nat} (h : a < 2147483648) : nI a = 0 ↔ a = 0 := qb_eq (b := 0) h (by omega)
section QS
variable {σ : qa_S} {N o b l2 l3 : Nat} {x y : Nat → Nat}
end QS
section QS2
variable {n t : Nat} {s : Nat → Nat} {T : Nat → Nat → Nat} {o b : Nat → Nat} {σ τ : qa_S} {N : Nat}
/-! mixing -/
def qs_sm (f : Nat → Nat) (n : Nat) : Nat := qw_f (fun c a => a + f c) n 0
theorem qs_sml {f : Nat → Nat} {n h : Nat} (hf : ∀ k, k < n → f k ≤ h) : qs_sm f n ≤ n * h := by
  refine qw_fI (F := fun c a => a + f c) (fun k a => a ≤ k * h) (by omega) (fun k x hk hx => ?_)
  have := hf k hk
  have e : (k + 1) * h = k * h + h := Nat.succ_mul k h
  omega
/-- a glass of shares s, and of water -/
def qs_mx (n : Nat) (s : Nat → Nat) (T : Nat → Nat → Nat) (w m : Nat) : Nat := qs_sm (fun c => s c * T c m) n / (w + qs_sm s n)
theorem qs_mxl {n : Nat} {s : Nat → Nat} {T : Nat → Nat → Nat} {w m : Nat} (hn : n ≤ 7) (hs : ∀ c, c < n → s c ≤ 99) (hT : ∀ c, c < n → T c m ≤ 99) : qs_sm (fun c => s c * T c m) n ≤ 68607 ∧ qs_sm s n ≤ 693 ∧ qs_mx n s T w m < 1000000 := by
  have h1 : qs_sm (fun c => s c * T c m) n ≤ n * (99 * 99) := qs_sml (fun k hk => Nat.mul_le_mul (hs k hk) (hT k hk))
  have h2 : qs_sm s n ≤ n * 99 := qs_sml hs
  have h3 := Nat.div_le_self (qs_sm (fun c => s c * T c m) n) (w + qs_sm s n)
  unfold qs_mx
  refine ⟨?_, ?_, ?_⟩ <;> omega
/-- the reference mixes what is tried -/
theorem qs_183 {r : Nat → Nat} (hN : 10 ≤ N) (hB : qv_B n t s T o b) (hR : qv_R n t s T o b τ) (hr : ∀ c, c < n → τ 110 c = nI (r c) ∧ r c ≤ 99) : (∀ m, m < 4 → ma_183_99 N τ 111 m = nI (qs_mx n r T 0 m)) ∧ qb_F (fun a _ => a = 111) τ (ma_183_99 N τ) := by
  obtain ⟨n7, t6, hs, hT, -⟩ := hB
  unfold ma_183_99
  dsimp only [qa_in]
  have L1 : qa_wh (fun s => s) (mc_183_99_p4 N τ) N ((0 : Int32), (0 : Int32)) = (nI n, nI (qs_sm r n)) := by
    refine qw_lp (e := fun s => s) (fun j (a : Nat) => (nI j, nI a)) (fun a => (nI n, nI a)) (fun c a => a + r c) n 0 (N := N) (by omega) (fun j a hj => ?_) (fun a => ?_)
    · unfold mc_183_99_p4
      dsimp only
      rw [hR.1, if_pos (qb_ltT hj (by omega)), qb_n (k := j) (by omega), (hr j hj).1, qb_s, qw_add]
    · unfold mc_183_99_p4
      dsimp only
      rw [hR.1, if_neg (qb_ltF (Nat.le_refl n) (by omega))]
  rw [L1]
  dsimp only
  refine qb_l0 (fun (k : Nat) (q : Int32 × qa_S) => q.1 = nI k ∧ (∀ m, m < k → q.2 111 m = nI (qs_mx n r T 0 m)) ∧ qb_F (fun a _ => a = 111) τ q.2) (fun (q : Int32 × qa_S) => (∀ m, m < 4 → q.2 111 m = nI (qs_mx n r T 0 m)) ∧ qb_F (fun a _ => a = 111) τ q.2) 4 (by omega) ⟨rfl, fun m hm => by omega, qb_Fr⟩ ?_ ?_
  · rintro k ⟨q1, q2⟩ hk ⟨g1, g2, g3⟩
    dsimp only at g1 g2 g3
    subst g1
    have C2 := qv_RF g3 (fun a j h c => by omega) hR
    have L : qa_wh (fun s => s) (mc_183_99_p39 N (nI (qs_sm r n)) (nI k) q2) N ((0 : Int32), (0 : Int32)) = (nI n, nI (qs_sm (fun c => r c * T c k) n)) := by
      refine qw_lp (e := fun s => s) (fun j (a : Nat) => (nI j, nI a)) (fun a => (nI n, nI a)) (fun c a => a + r c * T c k) n 0 (N := N) (by omega) (fun j a hj => ?_) (fun a => ?_)
      · unfold mc_183_99_p39
        dsimp only
        rw [C2.1, if_pos (qb_ltT hj (by omega)), qb_n (k := j) (by omega), qb_i4 j (by omega) k hk, g3 110 j (by omega), (hr j hj).1, C2.2.2.2.2 j k hj hk, qb_s, qw_mul, qw_add]
      · unfold mc_183_99_p39
        dsimp only
        rw [C2.1, if_neg (qb_ltF (Nat.le_refl n) (by omega))]
    unfold mc_183_99_p29
    dsimp only
    rw [if_pos (show nI k < (4 : Int32) from qb_ltT (b := 4) hk (by omega)), L]
    unfold qa_in
    dsimp only
    obtain ⟨b1, b2, b3⟩ := qs_mxl (w := 0) (m := k) n7 (fun c hc => (hr c hc).2) (fun c hc => hT c k hc hk)
    refine ⟨_, rfl, qb_s, fun m hm => ?_, fun a i ha => ?_⟩
    · dsimp only
      rw [qb_n (k := k) (by omega), qb_uJ]
      by_cases c : m = k
      · rw [if_pos c, c]
        unfold qs_mx
        rw [Nat.zero_add]
        by_cases z : qs_sm r n = 0
        · rw [z, if_pos (show nI 0 = 0 from rfl), Nat.div_zero]; rfl
        · rw [if_neg (fun c => z ((qw_z (by omega)).mp c)), qw_div (by omega) (by omega) (by omega)]
      · rw [if_neg c]
        exact g2 m (by omega)
    · dsimp only
      rw [qb_uA (by omega)]
      exact g3 a i ha
  · rintro ⟨q1, q2⟩ ⟨g1, g2, g3⟩
    dsimp only at g1 g2 g3
    subst g1
    unfold mc_183_99_p29
    dsimp only
    rw [if_neg (show ¬ nI 4 < (4 : Int32) by decide)]
    exact ⟨_, rfl, g2, g3⟩
end QS2
