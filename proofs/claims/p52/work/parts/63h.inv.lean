/-! WHAT HOLDS BETWEEN CALLS, of class and reference -/
def qb_hi (i : Nat) : Nat := if i = 0 then 7 else if i = 1 then 6 else if i < 23 then (if (i - 2) % 3 = 0 then 5 else 9) else if i < 51 then 9 else if (i - 51) % 3 = 0 then 15 else 9
def qb_D (V : Nat → Int32) : Prop := ∀ i, i < 69 → 0 ≤ (V i).toInt ∧ (V i).toInt ≤ (qb_hi i : Int)
def qb_S (σ : qa_S) (k j : Nat) : Nat → Int32 := if j < k then qb_tv σ j else qb_gm σ
def qb_TV (V : Nat → Int32) (c m : Nat) : Int32 := qb_T (fun c => V (2 + 3 * c)) (fun c => V (3 + 3 * c)) (fun c m => V (23 + 4 * c + m)) c m
def qb_sum (f : Nat → Int32) : Nat → Int32
  | 0 => 0
  | n + 1 => qb_sum f n + f n
/-- shares of a glass told by its number: those of cask 0 highest -/
def qb_sh (n g c : Nat) : Nat := g / 3 ^ (n - 1 - c) % 3
def qb_pr (n g : Nat) : Int32 := qb_sum (fun c => nI (qb_sh n g c)) n
def qb_ts (T : Nat → Nat → Int32) (n g m : Nat) : Int32 := qb_sum (fun c => nI (qb_sh n g c) * T c m) n
def qb_gl (T : Nat → Nat → Int32) (n g m : Nat) : Int32 := qb_ts T n g m / qb_pr n g
def qb_Gl (σ : qa_S) : Prop := ∀ n, n ≤ 7 → σ 4 0 = nI n → σ 73 0 = nI n ∧ σ 73 1 = nI (3 ^ n) ∧ ∀ g, 1 ≤ g → g < 3 ^ n → σ 79 g = qb_pr n g ∧ ∀ m, m < 4 → σ (75 + m) g = qb_gl (fun c m => σ (17 + c) m) n g m
def qb_iA (σ : qa_S) : Prop := (∀ i, i < 69 → qb_gc 4 σ i = qb_gm σ i) ∧ qb_D (qb_gm σ)
def qb_iB (σ : qa_S) : Prop := (∀ i, i < 69 → qb_gc 27 σ i = σ 118 i) ∧ qb_D (σ 118) ∧ σ 3 17 = σ 99 26
def qb_iC (σ : qa_S) : Prop := σ 83 0 = σ 99 17 ∧ (∃ n, n ≤ 96 ∧ σ 83 0 = nI n) ∧ ∀ i, i < 96 → σ 84 i = σ 113 i
def qb_iE (σ : qa_S) : Prop := ∃ k, k ≤ 8 ∧ σ 85 0 = nI k ∧ σ 99 32 = nI k ∧ ∀ j, j < k → qb_D (qb_tv σ j) ∧ (0 ≤ (σ 86 j).toInt ∧ (σ 86 j).toInt < (qb_gm σ 0).toInt) ∧ ∀ i, i < 69 → qb_tv σ j i = qb_U (σ 86 j) (σ 87 j) (σ 88 j) (qb_S σ k (j + 1)) i
def qb_iW (σ : qa_S) : Prop := (∃ n, n ≤ 12 ∧ σ 3 16 = nI n) ∧ σ 3 16 = σ 99 35 ∧ ∀ i, i < 12 → σ 92 i = σ 122 i
def qb_iX (σ : qa_S) : Prop := ∀ i, i < 7 → σ 93 i = σ 107 i
def qb_iY (σ : qa_S) : Prop := ∀ c m : Nat, (c : Int) < (qb_gm σ 0).toInt → m < 4 → σ (17 + c) m = qb_TV (qb_gm σ) c m
def qb_iQ (σ : qa_S) : Prop := σ 3 18 = 0 → qb_Gl σ
/-- xx, yy: whether the refusals, the mixed glasses are spoken of too -/
def qb_I (xx yy : Prop) (σ : qa_S) : Prop := qb_iA σ ∧ qb_iB σ ∧ qb_iC σ ∧ qb_iE σ ∧ qb_iW σ ∧ (xx → qb_iX σ) ∧ qb_iY σ ∧ (yy → qb_iQ σ)
/-! the places on which they stand -/
def qb_rA (a j : Nat) : Prop := (a = 4 ∧ j < 2) ∨ (5 ≤ a ∧ a ≤ 7) ∨ (9 ≤ a ∧ a ≤ 15) ∨ (24 ≤ a ∧ a ≤ 26) ∨ (a = 99 ∧ (j = 0 ∨ j = 5)) ∨ (100 ≤ a ∧ a ≤ 106)
def qb_rM (a j : Nat) : Prop := (a = 99 ∧ (j = 0 ∨ j = 5)) ∨ (100 ≤ a ∧ a ≤ 106)
def qb_rB (a j : Nat) : Prop := (a = 27 ∧ j < 2) ∨ (28 ≤ a ∧ a ≤ 30) ∨ (32 ≤ a ∧ a ≤ 38) ∨ (47 ≤ a ∧ a ≤ 49) ∨ a = 118 ∨ (a = 3 ∧ j = 17) ∨ (a = 99 ∧ j = 26)
def qb_rC (a j : Nat) : Prop := (a = 83 ∧ j = 0) ∨ a = 84 ∨ (a = 99 ∧ j = 17) ∨ a = 113
def qb_rE (a j : Nat) : Prop := (a = 85 ∧ j = 0) ∨ (86 ≤ a ∧ a ≤ 88) ∨ (a = 99 ∧ j = 32) ∨ a = 119
def qb_rW (a j : Nat) : Prop := (a = 3 ∧ j = 16) ∨ (a = 99 ∧ j = 35) ∨ a = 92 ∨ a = 122
def qb_rX (a _j : Nat) : Prop := a = 93 ∨ a = 107
def qb_rY (a _j : Nat) : Prop := 17 ≤ a ∧ a ≤ 23
def qb_rQ (a j : Nat) : Prop := (a = 3 ∧ j = 18) ∨ (a = 4 ∧ j = 0) ∨ (17 ≤ a ∧ a ≤ 23) ∨ (a = 73 ∧ j < 2) ∨ (75 ≤ a ∧ a ≤ 79)
section IF
variable {w : Nat → Nat → Prop} {σ τ : qa_S}
theorem qb_Am (h : qb_F w σ τ) (hw : ∀ a j, qb_rM a j → ¬ w a j) {i : Nat} (hi : i < 69) : qb_gm τ i = qb_gm σ i := qb_mF h (fun b j hb => hw b j (by unfold qb_rM; omega)) hi
theorem qb_Dx {V W : Nat → Int32} (h : ∀ i, i < 69 → V i = W i) (hD : qb_D W) : qb_D V := fun i hi => by rw [h i hi]; exact hD i hi
theorem qb_AF (h : qb_F w σ τ) (hw : ∀ a j, qb_rA a j → ¬ w a j) (hI : qb_iA σ) : qb_iA τ := by
  have e : ∀ i, i < 69 → qb_gm τ i = qb_gm σ i := fun i hi => qb_mF h (fun b j hb => hw b j (by unfold qb_rA; omega)) hi
  refine ⟨fun i hi => ?_, qb_Dx e hI.2⟩
  rw [e i hi, qb_cF (a := 4) h (fun b j hb => hw b j (by unfold qb_rA; omega)) hi]
  exact hI.1 i hi
theorem qb_BF (h : qb_F w σ τ) (hw : ∀ a j, qb_rB a j → ¬ w a j) (hI : qb_iB σ) : qb_iB τ := by
  have e : ∀ i, i < 69 → τ 118 i = σ 118 i := fun i hi => h 118 i (hw _ _ (by unfold qb_rB; omega))
  refine ⟨fun i hi => ?_, qb_Dx e hI.2.1, ?_⟩
  · rw [e i hi, qb_cF (a := 27) h (fun b j hb => hw b j (by unfold qb_rB; omega)) hi]
    exact hI.1 i hi
  · rw [h 3 17 (hw _ _ (by unfold qb_rB; omega)), h 99 26 (hw _ _ (by unfold qb_rB; omega))]
    exact hI.2.2
theorem qb_CF (h : qb_F w σ τ) (hw : ∀ a j, qb_rC a j → ¬ w a j) (hI : qb_iC σ) : qb_iC τ := by
  have e1 := h 83 0 (hw _ _ (by unfold qb_rC; omega))
  have e2 := h 99 17 (hw _ _ (by unfold qb_rC; omega))
  refine ⟨by rw [e1, e2]; exact hI.1, by rw [e1]; exact hI.2.1, fun i hi => ?_⟩
  rw [h 84 i (hw _ _ (by unfold qb_rC; omega)), h 113 i (hw _ _ (by unfold qb_rC; omega))]
  exact hI.2.2 i hi
theorem qb_Sx {k j : Nat} (h : qb_F w σ τ) (hw : ∀ a j, qb_rE a j → ¬ w a j) (hm : ∀ i, i < 69 → qb_gm τ i = qb_gm σ i) : ∀ i, i < 69 → qb_S τ k j i = qb_S σ k j i := by
  intro i hi
  unfold qb_S
  by_cases e : j < k
  · rw [if_pos e, if_pos e]; exact h 119 _ (hw _ _ (by unfold qb_rE; omega))
  · rw [if_neg e, if_neg e]; exact hm i hi
theorem qb_Ux {c f x : Int32} {V W : Nat → Int32} (h : ∀ i, i < 69 → V i = W i) : ∀ i, i < 69 → qb_U c f x V i = qb_U c f x W i := by
  intro i hi
  unfold qb_U
  by_cases f1 : f = -1
  · rw [if_pos f1, if_pos f1]; exact qb_sx h i hi
  rw [if_neg f1, if_neg f1]
  by_cases f2 : f = 4
  · rw [if_pos f2, if_pos f2]; exact qb_sx (qb_sx h) i hi
  rw [if_neg f2, if_neg f2]
  by_cases f3 : ma_26 f = 0
  · rw [if_pos f3, if_pos f3]; exact h i hi
  · rw [if_neg f3, if_neg f3]; exact qb_sx h i hi
theorem qb_EF (h : qb_F w σ τ) (hw : ∀ a j, qb_rE a j → ¬ w a j) (hm : ∀ i, i < 69 → qb_gm τ i = qb_gm σ i) (hI : qb_iE σ) : qb_iE τ := by
  obtain ⟨k, k8, k1, k2, k3⟩ := hI
  refine ⟨k, k8, by rw [h 85 0 (hw _ _ (by unfold qb_rE; omega))]; exact k1, by rw [h 99 32 (hw _ _ (by unfold qb_rE; omega))]; exact k2, fun j hj => ?_⟩
  obtain ⟨d1, d2, d3⟩ := k3 j hj
  have e : ∀ i, i < 69 → qb_tv τ j i = qb_tv σ j i := fun i hi => h 119 _ (hw _ _ (by unfold qb_rE; omega))
  rw [h 86 j (hw _ _ (by unfold qb_rE; omega)), h 87 j (hw _ _ (by unfold qb_rE; omega)), h 88 j (hw _ _ (by unfold qb_rE; omega)), hm 0 (by omega)]
  refine ⟨qb_Dx e d1, d2, fun i hi => ?_⟩
  rw [e i hi, d3 i hi]
  exact qb_Ux (fun i hi => (qb_Sx h hw hm i hi).symm) i hi
theorem qb_WF (h : qb_F w σ τ) (hw : ∀ a j, qb_rW a j → ¬ w a j) (hI : qb_iW σ) : qb_iW τ := by
  have e1 := h 3 16 (hw _ _ (by unfold qb_rW; omega))
  have e2 := h 99 35 (hw _ _ (by unfold qb_rW; omega))
  refine ⟨by rw [e1]; exact hI.1, by rw [e1, e2]; exact hI.2.1, fun i hi => ?_⟩
  rw [h 92 i (hw _ _ (by unfold qb_rW; omega)), h 122 i (hw _ _ (by unfold qb_rW; omega))]
  exact hI.2.2 i hi
theorem qb_XF (h : qb_F w σ τ) (hw : ∀ a j, qb_rX a j → ¬ w a j) (hI : qb_iX σ) : qb_iX τ := fun i hi => by
  rw [h 93 i (hw _ _ (by unfold qb_rX; omega)), h 107 i (hw _ _ (by unfold qb_rX; omega))]
  exact hI i hi
theorem qb_TVx {V W : Nat → Int32} (h : ∀ i, i < 69 → V i = W i) {c m : Nat} (hc : c < 7) (hm : m < 4) : qb_TV V c m = qb_TV W c m := qb_Tx (n := 7) (fun c hc => h _ (by omega)) (fun c hc => h _ (by omega)) (fun c m hc hm => h _ (by omega)) c m hc hm
theorem qb_YF (h : qb_F w σ τ) (hw : ∀ a j, qb_rY a j → ¬ w a j) (hA : qb_iA σ) (hm : ∀ i, i < 69 → qb_gm τ i = qb_gm σ i) (hI : qb_iY σ) : qb_iY τ := by
  intro c m hc h4
  rw [hm 0 (by omega)] at hc
  have h7 := (hA.2 0 (by omega)).2
  have h7 : (qb_gm σ 0).toInt ≤ 7 := h7
  rw [h (17 + c) m (hw _ _ (by unfold qb_rY; omega)), hI c m hc h4]
  exact qb_TVx (fun i hi => (hm i hi).symm) (by omega) h4
theorem qb_sumx {f g : Nat → Int32} : ∀ {n : Nat}, (∀ c, c < n → f c = g c) → qb_sum f n = qb_sum g n := by
  intro n
  induction n with
  | zero => intro _; rfl
  | succ n ih => intro h; unfold qb_sum; rw [ih (fun c hc => h c (by omega)), h n (by omega)]
theorem qb_glx {T T' : Nat → Nat → Int32} {n g m : Nat} (h : ∀ c, c < n → T c m = T' c m) : qb_gl T n g m = qb_gl T' n g m := by
  unfold qb_gl qb_ts
  rw [qb_sumx (fun c hc => by rw [h c hc])]
theorem qb_QF (h : qb_F w σ τ) (hw : ∀ a j, qb_rQ a j → ¬ w a j) (hI : qb_iQ σ) : qb_iQ τ := by
  intro h0
  rw [h 3 18 (hw _ _ (by unfold qb_rQ; omega))] at h0
  intro n hn hc
  rw [h 4 0 (hw _ _ (by unfold qb_rQ; omega))] at hc
  obtain ⟨g1, g2, g3⟩ := hI h0 n hn hc
  refine ⟨by rw [h 73 0 (hw _ _ (by unfold qb_rQ; omega))]; exact g1, by rw [h 73 1 (hw _ _ (by unfold qb_rQ; omega))]; exact g2, fun g ga gb => ⟨?_, fun m hm => ?_⟩⟩
  · rw [h 79 g (hw _ _ (by unfold qb_rQ; omega))]; exact (g3 g ga gb).1
  · rw [h (75 + m) g (hw _ _ (by unfold qb_rQ; omega)), (g3 g ga gb).2 m hm]
    exact qb_glx (fun c hc => (h _ _ (hw _ _ (by unfold qb_rQ; omega))).symm)
/-- nothing of all that is written -/
def qb_rI (a j : Nat) : Prop := qb_rA a j ∨ qb_rB a j ∨ qb_rC a j ∨ qb_rE a j ∨ qb_rW a j ∨ qb_rX a j ∨ qb_rY a j ∨ qb_rQ a j
theorem qb_IF {xx yy : Prop} (h : qb_F w σ τ) (hw : ∀ a j, qb_rI a j → ¬ w a j) (hI : qb_I xx yy σ) : qb_I xx yy τ := by
  obtain ⟨iA, iB, iC, iE, iW, iX, iY, iQ⟩ := hI
  have hm : ∀ i, i < 69 → qb_gm τ i = qb_gm σ i := fun i hi => qb_mF h (fun b j hb => hw b j (Or.inl (by unfold qb_rA; omega))) hi
  exact ⟨qb_AF h (fun a j r => hw a j (Or.inl r)) iA, qb_BF h (fun a j r => hw a j (Or.inr (Or.inl r))) iB, qb_CF h (fun a j r => hw a j (Or.inr (Or.inr (Or.inl r)))) iC, qb_EF h (fun a j r => hw a j (Or.inr (Or.inr (Or.inr (Or.inl r))))) hm iE, qb_WF h (fun a j r => hw a j (Or.inr (Or.inr (Or.inr (Or.inr (Or.inl r)))))) iW, fun hx => qb_XF h (fun a j r => hw a j (Or.inr (Or.inr (Or.inr (Or.inr (Or.inr (Or.inl r))))))) (iX hx), qb_YF h (fun a j r => hw a j (Or.inr (Or.inr (Or.inr (Or.inr (Or.inr (Or.inr (Or.inl r)))))))) iA hm iY, fun hx => qb_QF h (fun a j r => hw a j (Or.inr (Or.inr (Or.inr (Or.inr (Or.inr (Or.inr (Or.inr r)))))))) (iQ hx)⟩
end IF
/-- how many casks, tasters there are -/
theorem qb_An {σ : qa_S} (h : qb_iA σ) : ∃ n, n ≤ 7 ∧ σ 4 0 = nI n ∧ σ 99 0 = nI n ∧ (qb_gm σ 0).toInt = (n : Int) := by
  obtain ⟨n, h1, h2, h3, -⟩ := qb_ex (h.2 0 (by omega))
  exact ⟨n, h2, (h.1 0 (by omega)).trans h1, h1, h3⟩
theorem qb_At {σ : qa_S} (h : qb_iA σ) : ∃ n, n ≤ 6 ∧ σ 4 1 = nI n ∧ σ 99 5 = nI n ∧ (qb_gm σ 1).toInt = (n : Int) := by
  obtain ⟨n, h1, h2, h3, -⟩ := qb_ex (h.2 1 (by omega))
  exact ⟨n, h2, (h.1 1 (by omega)).trans h1, h1, h3⟩
