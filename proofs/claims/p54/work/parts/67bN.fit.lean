/-! CALLS BY GLASSES: fits, sure, claim, drops -/
section QN
variable {n t : Nat} {x s : Nat → Nat} {T : Nat → Nat → Nat} {o b : Nat → Nat} {σ τ : qa_S} {N : Nat}
theorem qk_72i (h : σ 3 18 = 0) : ma_72_3 N σ = σ := by
  unfold ma_72_3
  dsimp only [qa_in]
  rw [if_pos h]
/-- aimed, all glasses mixed -/
def qs_Z (n t : Nat) (s : Nat → Nat) (T : Nat → Nat → Nat) (o b x : Nat → Nat) (w : Nat) (τ : qa_S) : Prop := qv_C n t s T o b τ ∧ qs_V n T τ ∧ qs_W (qs_lo t w o b x) (qs_hi t w o b x) τ ∧ qk_M τ ∧ τ 3 18 = 0
def qs_Zw (a j : Nat) : Prop := a = 81 ∨ a = 82 ∨ a = 94 ∨ (a = 3 ∧ j = 18) ∨ a = 73 ∨ (75 ≤ a ∧ a ≤ 79)
theorem qs_ax {w a2 : Nat} (hN : 5000 ≤ N) (hB : qv_B n t s T o b) (hC : qv_C n t s T o b σ) (hk : qk_M σ) (ha : a2 = 94 ∨ a2 = 95) (hw : w < 128) (hx : ∀ m, m < 4 → σ a2 m = nI (x m) ∧ x m < 1000000) : qs_Z n t s T o b x w (ma_72_3 N (ma_66_3 N (nI w) a2 σ)) ∧ qb_F qs_Zw σ (ma_72_3 N (ma_66_3 N (nI w) a2 σ)) := by
  have n7 := hB.1
  obtain ⟨W, F2⟩ := qs_66 (N := N) (by omega) hB hC ha hw hx
  obtain ⟨μ, eμ⟩ : ∃ μ, μ = ma_66_3 N (nI w) a2 σ := ⟨_, rfl⟩
  rw [← eμ] at W F2 ⊢
  have C2 := qv_CF F2 (fun a j h c => by omega) hC n7
  have M2 : qk_M μ := qk_MF F2 (fun a j r => by unfold qb_rQ at r; omega) hk
  obtain ⟨Q, z, F3⟩ := qk_72 (N := N) hN M2.1 M2.2
  have M3 := qk_mm (N := N) hN μ M2
  obtain ⟨ν, eν⟩ : ∃ ν, ν = ma_72_3 N μ := ⟨_, rfl⟩
  rw [← eν] at Q z F3 M3 ⊢
  have C3 := qv_CF F3 (fun a j h c => by omega) C2 n7
  exact ⟨⟨C3, qs_V1 hB C3 Q z, fun m hm => ⟨(F3 81 m (by omega)).trans (W m hm).1, (F3 82 m (by omega)).trans (W m hm).2⟩, M3, z⟩, qb_Ft F2 F3 (fun a j h => by unfold qs_Zw; omega) (fun a j h => by unfold qs_Zw; omega)⟩
theorem qs_193 (hN : 5000 ≤ N) (hB : qv_B n t s T o b) (hP : qv_P n t s T o b τ) : (ma_193_99 N τ).1 = nI (qs_cn n (qs_fb n t T o b (qs_gl n s T) (2 ^ t - 1))) ∧ qv_R n t s T o b (ma_193_99 N τ).2 ∧ qs_A n t T o b (qs_gl n s T) (ma_193_99 N τ).2 ∧ qb_F (fun a _ => 108 ≤ a ∧ a ≤ 112) τ (ma_193_99 N τ).2 := by
  obtain ⟨R, A, F⟩ := qs_194 (N := N) hN hB hP
  unfold ma_193_99
  dsimp only [qa_in]
  rw [qs_190p hB.2.1 R.2.1]
  exact ⟨qs_199 hN hB R.1 A (by have := Nat.two_pow_pos t; omega), R, A, F⟩
end QN
