/-! CALLS BY GLASSES: fits, sure, claim, drops -/
section QN
variable {n t : Nat} {x s : Nat → Nat} {T : Nat → Nat → Nat} {o b : Nat → Nat} {σ τ : qa_S} {N : Nat}
/-- aimed, all glasses mixed -/
def qs_Z (n t : Nat) (s : Nat → Nat) (T : Nat → Nat → Nat) (o b x : Nat → Nat) (w : Nat) (τ : qa_S) : Prop := qv_C n t s T o b τ ∧ qs_V n T τ ∧ qs_W (qs_lo t w o b x) (qs_hi t w o b x) τ ∧ qk_M τ ∧ τ 3 18 = 0
def qs_Zw (a j : Nat) : Prop := a = 81 ∨ a = 82 ∨ a = 94 ∨ (a = 3 ∧ j = 18) ∨ a = 73 ∨ (75 ≤ a ∧ a ≤ 79)
theorem qs_ax {w a2 : Nat} (hN : 5000 ≤ N) (hB : qv_B n t s T o b) (hC : qv_C n t s T o b σ) (hk : qk_M σ) (ha : a2 = 94 ∨ a2 = 95) (hw : w < 128) (hx : ∀ m, m < 4 → σ a2 m = nI (x m) ∧ x m < 1000000) : qs_Z n t s T o b x w (ma_72_3 N (ma_66_3 N (nI w) a2 σ)) ∧ qb_F qs_Zw σ (ma_72_3 N (ma_66_3 N (nI w) a2 σ)) := by
  have n7 := hB.1
  obtain ⟨W, F2⟩ := qs_66 (N := N) (by omega) hB hC ha hw hx
  obtain ⟨μ, eμ⟩ : ∃ μ, μ = ma_66_3 N (nI w) a2 σ := ⟨_, rfl⟩
  rw [← eμ] at W F2 ⊢
  have C2 := qv_CF F2 (fun a j h c => by omega) hC n7
  have M2 : qk_M μ := qk_MF F2 (fun a j r => by unfold qb_rQ at r; omega) hk
  obtain ⟨Q, z, F3⟩ := qk_72 (N := N) hN M2.1 M2.2
  have M3 := qk_mm (N := N) hN μ M2
  obtain ⟨ν, eν⟩ : ∃ ν, ν = ma_72_3 N μ := ⟨_, rfl⟩
  rw [← eν] at Q z F3 M3 ⊢
  have C3 := qv_CF F3 (fun a j h c => by omega) C2 n7
  exact ⟨⟨C3, qs_V1 hB C3 Q z, fun m hm => ⟨(F3 81 m (by omega)).trans (W m hm).1, (F3 82 m (by omega)).trans (W m hm).2⟩, M3, z⟩, qb_Ft F2 F3 (fun a j h => by unfold qs_Zw; omega) (fun a j h => by unfold qs_Zw; omega)⟩
theorem qs_am {w : Nat} (hN : 5000 ≤ N) (hB : qv_B n t s T o b) (hC : qv_C n t s T o b σ) (hk : qk_M σ) (hw : w < 128) : qs_Z n t s T o b (qs_gl n s T) w (ma_72_3 N (ma_65_3 N (nI w) σ)) ∧ qb_F qs_Zw σ (ma_72_3 N (ma_65_3 N (nI w) σ)) := by
  have n7 := hB.1
  obtain ⟨q1, F1⟩ := qs_46 (N := N) (by omega) hB hC
  have e : ma_65_3 N (nI w) σ = ma_66_3 N (nI w) 94 (ma_46_3 N σ) := rfl
  rw [e]
  have C1 := qv_CF F1 (fun a j h c => by omega) hC n7
  obtain ⟨Z, F⟩ := qs_ax (N := N) (x := qs_gl n s T) hN hB C1 (qk_MF F1 (fun a j r => by unfold qb_rQ at r; omega) hk) (Or.inl rfl) hw (fun m hm => ⟨q1 m hm, qs_gll hB hm⟩)
  exact ⟨Z, qb_Ft F1 F (fun a j h => by unfold qs_Zw; omega) (fun a j h => h)⟩
theorem qs_87 {w : Nat} (hN : 5000 ≤ N) (hB : qv_B n t s T o b) (hC : qv_C n t s T o b σ) (hk : qk_M σ) (hw : w < 128) : (ma_87_3 N (nI w) σ).1 = nI (qs_cn n (qs_fb n t T o b (qs_gl n s T) w)) ∧ qs_Z n t s T o b (qs_gl n s T) w (ma_87_3 N (nI w) σ).2 ∧ qb_F qs_Zw σ (ma_87_3 N (nI w) σ).2 := by
  obtain ⟨Z, F⟩ := qs_am (N := N) hN hB hC hk hw
  have e : ma_87_3 N (nI w) σ = (ma_75_73_80 N (ma_72_3 N (ma_65_3 N (nI w) σ)), ma_72_3 N (ma_65_3 N (nI w) σ)) := rfl
  rw [e]
  exact ⟨qs_75 hN hB Z.2.1 Z.2.2.1 (fun m hm => qs_gll hB hm), Z, F⟩
end QN
