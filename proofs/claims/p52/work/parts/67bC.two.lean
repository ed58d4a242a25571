/-! the row: impostor, judge, two -/
def qv_rw (k : Nat) (r : Nat → Nat) (σ : qa_S) : Prop := σ 3 16 = nI k ∧ ∀ i, i < 12 → σ 92 i = nI (r i)
def qv_rx (k : Nat) (r : Nat → Nat) (τ : qa_S) : Prop := τ 99 35 = nI k ∧ ∀ i, i < 12 → τ 122 i = nI (r i)
theorem qv_row {xx yy : Prop} {σ : qa_S} (hI : qb_I xx yy σ) (hr : ∀ i, i < 12 → 0 ≤ (σ 92 i).toInt ∧ (σ 92 i).toInt ≤ 99) : ∃ (k : Nat) (r : Nat → Nat), k ≤ 12 ∧ (∀ i, i < 12 → r i ≤ 99) ∧ qv_rw k r σ ∧ qv_rx k r σ := by
  obtain ⟨⟨k, k12, hk⟩, h2, h3⟩ := hI.2.2.2.2.1
  refine ⟨k, fun i => (σ 92 i).toNatClampNeg, k12, fun i hi => ?_, ⟨hk, fun i hi => (qw_nn (hr i hi)).1⟩, h2.symm.trans hk, fun i hi => ?_⟩
  · have := (qw_nn (hr i hi)).2; dsimp only; omega
  · rw [← h3 i hi]; exact (qw_nn (hr i hi)).1
section QC
variable {n t : Nat} {x s : Nat → Nat} {T : Nat → Nat → Nat} {o b : Nat → Nat} {σ τ : qa_S} {N : Nat}
theorem qv_rF {w : Nat → Nat → Prop} {k : Nat} {r : Nat → Nat} (h : qb_F w σ τ) (hw : ∀ a j, (a = 99 ∧ j = 35) ∨ a = 122 → ¬ w a j) (hr : qv_rx k r σ) : qv_rx k r τ := ⟨(h _ _ (hw _ _ (by omega))).trans hr.1, fun i hi => (h _ _ (hw _ _ (by omega))).trans (hr.2 i hi)⟩
end QC
