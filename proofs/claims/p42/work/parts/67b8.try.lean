/-! GLASSES TRIED; gone, hidden, substitutes -/
def qs_up (s : Nat → Nat) (c v : Nat) : Nat → Nat := fun k => if k == c then v else s k
/-- how many tell a glass otherwise if a cask's share is v -/
def qs_D (n t : Nat) (x s : Nat → Nat) (T : Nat → Nat → Nat) (o b : Nat → Nat) (c v : Nat) : Nat := qs_ct (fun i => qs_ap (o i) (b i) x (qs_mx n (qs_up s c v) T 0)) t
def qv_W (n t : Nat) (x s : Nat → Nat) (T : Nat → Nat → Nat) (o b : Nat → Nat) (τ : qa_S) : Prop := qv_R n t s T o b τ ∧ (∀ m, m < 4 → τ 109 m = nI (x m) ∧ x m < 1000000) ∧ ∀ c, c < n → τ 110 c = nI (s c)
def qv_V (n t : Nat) (x s : Nat → Nat) (T : Nat → Nat → Nat) (o b : Nat → Nat) (σ : qa_S) : Prop := qv_C n t s T o b σ ∧ ∀ m, m < 4 → σ 94 m = nI (x m) ∧ x m < 1000000
section Q8
variable {n t : Nat} {x s : Nat → Nat} {T : Nat → Nat → Nat} {o b : Nat → Nat} {σ τ : qa_S} {N : Nat}
theorem qs_Dl {c v : Nat} : qs_D n t x s T o b c v ≤ t := qs_ctl
/-- the class tries a share -/
theorem qv_117 (hN : 10 ≤ N) (hB : qv_B n t s T o b) (hV : qv_V n t x s T o b σ) {c v : Nat} (hc : c < n) (hv : v ≤ 9) : ma_99_3 N 94 95 (ma_117_3 N (nI c) (nI v) σ) = nI (qs_D n t x s T o b c v) ∧ qv_V n t x s T o b (ma_117_3 N (nI c) (nI v) σ) := by
  obtain ⟨C, g⟩ := hV
  have n7 := hB.1
  unfold ma_117_3
  dsimp only [qa_in]
  rw [qb_n (k := c) (by omega)]
  have C0 : qv_C n t (qs_up s c v) T o b (qa_u σ 7 c (nI v)) := by
    have F0 : qb_F (fun a _ => a = 7) σ (qa_u σ 7 c (nI v)) := qb_Fu rfl
    refine ⟨(F0 _ _ (by omega)).trans C.1, (F0 _ _ (by omega)).trans C.2.1, fun k hk => ?_, fun k m hk hm => (F0 _ _ (by omega)).trans (C.2.2.2.1 k m hk hm), fun i hi => ⟨(F0 _ _ (by omega)).trans (C.2.2.2.2 i hi).1, (F0 _ _ (by omega)).trans (C.2.2.2.2 i hi).2⟩⟩
    rw [qb_uJ]
    unfold qs_up
    by_cases e : k = c
    · rw [if_pos e, e, beq_self_eq_true]; rfl
    · rw [if_neg e, beq_eq_false_iff_ne.mpr e]; exact C.2.2.1 k hk
  have B0 : qv_B n t (qs_up s c v) T o b := ⟨n7, hB.2.1, fun k hk => by unfold qs_up; have := hB.2.2.1 k hk; split <;> omega, hB.2.2.2.1, hB.2.2.2.2⟩
  obtain ⟨h1, F1⟩ := qs_47 (N := N) (S0 := -1) (w := 0) (a4 := 95) (l1 := 7) (e := fun _ => true) (s1 := qs_up s c v) hN B0 C0 (by omega) (Or.inr rfl) (Or.inl rfl) (fun k hk => ⟨C0.2.2.1 k (by omega), by have := B0.2.2.1 k (by omega); omega⟩) (fun k hk => qs_48e k (by omega))
  obtain ⟨ρ, eρ⟩ : ∃ ρ, ρ = ma_47_4 N 7 (-1) 0 95 (qa_u σ 7 c (nI v)) := ⟨_, rfl⟩
  have h1' : ∀ m, m < 4 → ρ 95 m = nI (qs_mx n (qs_up s c v) T 0 m) := fun m hm => by rw [eρ]; exact h1 m hm
  have F1' : qb_F (fun a _ => a = 95) (qa_u σ 7 c (nI v)) ρ := by rw [eρ]; exact F1
  rw [← eρ]
  have C1 : qv_C n t s T o b (qa_u ρ 7 c (σ 7 c)) := by
    have F2 : qb_F (fun a _ => a = 7 ∨ a = 95) σ (qa_u ρ 7 c (σ 7 c)) := fun a j h => by rw [qb_uA (by omega), F1' a j (by omega), qb_uA (by omega)]
    refine ⟨(F2 _ _ (by omega)).trans C.1, (F2 _ _ (by omega)).trans C.2.1, fun k hk => ?_, fun k m hk hm => (F2 _ _ (by omega)).trans (C.2.2.2.1 k m hk hm), fun i hi => ⟨(F2 _ _ (by omega)).trans (C.2.2.2.2 i hi).1, (F2 _ _ (by omega)).trans (C.2.2.2.2 i hi).2⟩⟩
    rw [qb_uJ]
    by_cases e : k = c
    · rw [if_pos e, e]; exact C.2.2.1 c (by omega)
    · rw [if_neg e, F1' 7 k (by omega), qb_uN (Or.inr e)]; exact C.2.2.1 k hk
  have g1 : ∀ m, m < 4 → qa_u ρ 7 c (σ 7 c) 94 m = nI (x m) ∧ x m < 1000000 := fun m hm => ⟨by rw [qb_uA (by omega), F1' 94 m (by omega), qb_uA (by omega)]; exact (g m hm).1, (g m hm).2⟩
  refine ⟨?_, C1, g1⟩
  rw [qs_99 (x := x) (y := qs_mx n (qs_up s c v) T 0) hN hB C1 g1 (fun m hm => ⟨by rw [qb_uA (by omega)]; exact h1' m hm, (qs_mxl n7 (fun k hk => by have := B0.2.2.1 k (by omega); omega) (fun k hk => hB.2.2.2.1 k m hk hm)).2.2⟩)]
  rfl
theorem qv_W0 (hN : 10 ≤ N) (hB : qv_B n t s T o b) (hP : qv_P n t s T o b τ) : qv_W n t (qs_gl n s T) s T o b (ma_180_99 N τ) := by
  obtain ⟨R, r1, r2, -⟩ := qs_180 hN hB hP
  exact ⟨R, fun m hm => ⟨r2 m hm, qs_gll hB hm⟩, r1⟩
theorem qv_V0 (hN : 10 ≤ N) (hB : qv_B n t s T o b) (hC : qv_C n t s T o b σ) : qv_V n t (qs_gl n s T) s T o b (ma_46_3 N σ) := by
  obtain ⟨h, F⟩ := qs_46 hN hB hC
  exact ⟨qv_CF F (fun a j h c => by omega) hC hB.1, fun m hm => ⟨h m hm, qs_gll hB hm⟩⟩
end Q8
