/-! what scratch places and the mixing of all glasses keep, is kept by all that writes no more -/
def qb_sc (a j : Nat) : Prop := a = 81 ∨ a = 82 ∨ (89 ≤ a ∧ a ≤ 91) ∨ (93 ≤ a ∧ a ≤ 95) ∨ a = 97 ∨ a = 98 ∨ (a = 99 ∧ j = 9) ∨ (107 ≤ a ∧ a ≤ 112) ∨ a = 121 ∨ a = 123
theorem qb_ifP {A : Type} {P : A → Prop} {c : Prop} {d : Decidable c} {a b : A} (h1 : P a) (h2 : P b) : P (if c then a else b) := by
  by_cases h : c
  · rw [if_pos h]; exact h1
  · rw [if_neg h]; exact h2
theorem qb_csP {A B C : Type} {P : C → Prop} {x : A ⊕ B} {g : A → C} {h : B → C} (h1 : ∀ b, x = .inl b → P (g b)) (h2 : ∀ b, x = .inr b → P (h b)) : P (qa_cs x g h) := by
  cases x with
  | inl b => exact h1 b rfl
  | inr b => exact h2 b rfl
theorem qb_whP {T B : Type} {e : T → B} {step : T → T ⊕ B} {I : T → Prop} {Q : B → Prop} (he : ∀ s, I s → Q (e s)) (hs : ∀ s, I s → qa_cs (step s) I Q) : ∀ (n : Nat) (s : T), I s → Q (qa_wh e step n s) := by
  intro n
  induction n with
  | zero => intro s h; exact he s h
  | succ n ih =>
    intro s h
    have h2 := hs s h
    cases hq : step s with
    | inl s' => rw [hq] at h2; rw [qa_whl hq]; exact ih s' h2
    | inr b => rw [hq] at h2; rw [qa_whr hq]; exact h2
theorem qb_cpP {P : qa_S → Prop} {b : Nat} (hw : ∀ j s v, P s → P (qa_u s b j v)) {σ : qa_S} {a sp dp n : Nat} (h : P σ) : P (qa_cp σ a sp b dp n) := by
  have e : ∀ (m : Nat) (τ : qa_S), P τ → P (fun c i => if c = b ∧ dp ≤ i ∧ i < dp + m then σ a (sp + (i - dp)) else τ c i) := by
    intro m
    induction m with
    | zero =>
      intro τ h
      have : (fun c i => if c = b ∧ dp ≤ i ∧ i < dp + 0 then σ a (sp + (i - dp)) else τ c i) = τ := by
        funext c i
        rw [if_neg (by omega)]
      rw [this]
      exact h
    | succ m ih =>
      intro τ h
      have h2 := hw (dp + m) _ (σ a (sp + m)) (ih τ h)
      have : (fun c i => if c = b ∧ dp ≤ i ∧ i < dp + (m + 1) then σ a (sp + (i - dp)) else τ c i) = qa_u (fun c i => if c = b ∧ dp ≤ i ∧ i < dp + m then σ a (sp + (i - dp)) else τ c i) b (dp + m) (σ a (sp + m)) := by
        funext c i
        unfold qa_u
        dsimp only
        by_cases h1 : c = b ∧ i = dp + m
        · rw [if_pos h1, if_pos (by omega), show i - dp = m by omega]
        · rw [if_neg h1]
          by_cases h3 : c = b ∧ dp ≤ i ∧ i < dp + m
          · rw [if_pos h3, if_pos (by omega)]
          · rw [if_neg h3, if_neg (by omega)]
      rw [this]
      exact h2
  exact e n σ h
theorem qb_q81 (j : Nat) : qb_sc 81 j := by unfold qb_sc; omega
theorem qb_q82 (j : Nat) : qb_sc 82 j := by unfold qb_sc; omega
theorem qb_q89 (j : Nat) : qb_sc 89 j := by unfold qb_sc; omega
theorem qb_q90 (j : Nat) : qb_sc 90 j := by unfold qb_sc; omega
theorem qb_q91 (j : Nat) : qb_sc 91 j := by unfold qb_sc; omega
theorem qb_q93 (j : Nat) : qb_sc 93 j := by unfold qb_sc; omega
theorem qb_q94 (j : Nat) : qb_sc 94 j := by unfold qb_sc; omega
theorem qb_q95 (j : Nat) : qb_sc 95 j := by unfold qb_sc; omega
theorem qb_q97 (j : Nat) : qb_sc 97 j := by unfold qb_sc; omega
theorem qb_q98 (j : Nat) : qb_sc 98 j := by unfold qb_sc; omega
theorem qb_q107 (j : Nat) : qb_sc 107 j := by unfold qb_sc; omega
theorem qb_q108 (j : Nat) : qb_sc 108 j := by unfold qb_sc; omega
theorem qb_q109 (j : Nat) : qb_sc 109 j := by unfold qb_sc; omega
theorem qb_q110 (j : Nat) : qb_sc 110 j := by unfold qb_sc; omega
theorem qb_q111 (j : Nat) : qb_sc 111 j := by unfold qb_sc; omega
theorem qb_q112 (j : Nat) : qb_sc 112 j := by unfold qb_sc; omega
theorem qb_q121 (j : Nat) : qb_sc 121 j := by unfold qb_sc; omega
theorem qb_q123 (j : Nat) : qb_sc 123 j := by unfold qb_sc; omega
theorem qb_q99 : qb_sc 99 9 := by unfold qb_sc; omega
theorem mf_9_3 {P : qa_S → Prop} {N : Nat} {σ : qa_S} {a1 : Int32} (hw : ∀ a j, qb_sc a j → ∀ s v, P s → P (qa_u s a j v)) (hm : ∀ s, P s → P (ma_72_3 N s)) (h : P σ) : P (ma_9_3 a1 σ).2 := by
  unfold ma_9_3
  show (fun (z : Int32 × qa_S) => P z.2) _
  refine qb_inP (P := fun (z : Int32 × qa_S) => P z.2) (fun m3 em3 => ?_)
  have p_m3 : P m3 := by rw [em3]; exact hw _ _ (qb_q93 _) _ _ h
  refine qb_inP (P := fun (z : Int32 × qa_S) => P z.2) (fun m4 em4 => ?_)
  have p_m4 : P m4 := by rw [em4]; exact qb_ifP p_m3 h
  refine qb_inP (P := fun (z : Int32 × qa_S) => P z.2) (fun m5 em5 => ?_)
  have p_m5 : P m5 := by rw [em5]; exact qb_ifP p_m4 h
  exact p_m5
theorem mf_31_3 {P : qa_S → Prop} {N : Nat} {σ : qa_S} {a1 : Int32} {a2 : Int32} (hw : ∀ a j, qb_sc a j → ∀ s v, P s → P (qa_u s a j v)) (hm : ∀ s, P s → P (ma_72_3 N s)) (h : P σ) : P (ma_31_3 a1 a2 σ).2 := by
  unfold ma_31_3
  show (fun (z : Int32 × qa_S) => P z.2) _
  refine qb_ifP (P := fun (z : Int32 × qa_S) => P z.2) ?_ ?_
  · refine qb_inP (P := fun (z : Int32 × qa_S) => P z.2) (fun r2 er2 => ?_)
    have p_r2 : P r2.2 := by rw [er2]; exact mf_9_3 hw hm h
    exact p_r2
  · refine qb_ifP (P := fun (z : Int32 × qa_S) => P z.2) ?_ ?_
    · refine qb_inP (P := fun (z : Int32 × qa_S) => P z.2) (fun r4 er4 => ?_)
      have p_r4 : P r4.2 := by rw [er4]; exact mf_9_3 hw hm h
      exact p_r4
    · refine qb_ifP (P := fun (z : Int32 × qa_S) => P z.2) ?_ ?_
      · refine qb_inP (P := fun (z : Int32 × qa_S) => P z.2) (fun r6 er6 => ?_)
        have p_r6 : P r6.2 := by rw [er6]; exact mf_9_3 hw hm h
        exact p_r6
      · refine qb_ifP (P := fun (z : Int32 × qa_S) => P z.2) ?_ ?_
        · exact h
        · refine qb_ifP (P := fun (z : Int32 × qa_S) => P z.2) ?_ ?_
          · exact h
          · refine qb_ifP (P := fun (z : Int32 × qa_S) => P z.2) ?_ ?_
            · exact h
            · exact h
theorem mf_32_3 {P : qa_S → Prop} {N : Nat} {σ : qa_S} {a1 : Int32} {a2 : Int32} (hw : ∀ a j, qb_sc a j → ∀ s v, P s → P (qa_u s a j v)) (hm : ∀ s, P s → P (ma_72_3 N s)) (h : P σ) : P (ma_32_3 a1 a2 σ).2 := by
  unfold ma_32_3
  show (fun (z : Int32 × qa_S) => P z.2) _
  refine qb_ifP (P := fun (z : Int32 × qa_S) => P z.2) ?_ ?_
  · refine qb_inP (P := fun (z : Int32 × qa_S) => P z.2) (fun r2 er2 => ?_)
    have p_r2 : P r2.2 := by rw [er2]; exact mf_9_3 hw hm h
    exact p_r2
  · refine qb_ifP (P := fun (z : Int32 × qa_S) => P z.2) ?_ ?_
    · exact h
    · refine qb_ifP (P := fun (z : Int32 × qa_S) => P z.2) ?_ ?_
      · exact h
      · refine qb_ifP (P := fun (z : Int32 × qa_S) => P z.2) ?_ ?_
        · exact h
        · refine qb_inP (P := fun (z : Int32 × qa_S) => P z.2) (fun r6 er6 => ?_)
          have p_r6 : P r6.2 := by rw [er6]; exact mf_9_3 hw hm h
          exact p_r6
theorem mg_47_4_p3 {P : qa_S → Prop} {N n : Nat} {l1 : Nat} {l2 : Int32} {l3 : Int32} {l4 : Nat} {s : Int32 × qa_S} (hw : ∀ a j, qb_sc a j → ∀ s v, P s → P (qa_u s a j v)) (hm : ∀ s, P s → P (ma_72_3 N s)) (hl4 : ∀ j, qb_sc l4 j) (h : P (s.2)) : (fun (b : Int32 × qa_S) => P (b.2)) (qa_wh (fun s => s) (mc_47_4_p3 N l1 l2 l3 l4) n s) := by
  refine qb_whP (I := (fun (s : Int32 × qa_S) => P (s.2))) (Q := (fun (b : Int32 × qa_S) => P (b.2))) (fun s h => h) (fun s h => ?_) n s h
  unfold mc_47_4_p3
  show (fun (x : (Int32 × qa_S) ⊕ ((Int32 × qa_S))) => qa_cs x (fun (s : Int32 × qa_S) => P (s.2)) (fun (b : Int32 × qa_S) => P (b.2))) _
  refine qb_ifP (P := fun (x : (Int32 × qa_S) ⊕ ((Int32 × qa_S))) => qa_cs x (fun (s : Int32 × qa_S) => P (s.2)) (fun (b : Int32 × qa_S) => P (b.2))) ?_ ?_
  · refine qb_inP (P := fun (x : (Int32 × qa_S) ⊕ ((Int32 × qa_S))) => qa_cs x (fun (s : Int32 × qa_S) => P (s.2)) (fun (b : Int32 × qa_S) => P (b.2))) (fun r2 er2 => ?_)
    refine qb_inP (P := fun (x : (Int32 × qa_S) ⊕ ((Int32 × qa_S))) => qa_cs x (fun (s : Int32 × qa_S) => P (s.2)) (fun (b : Int32 × qa_S) => P (b.2))) (fun m4 em4 => ?_)
    have p_m4 : P m4 := by rw [em4]; exact hw _ _ (hl4 _) _ _ h
    exact p_m4
  · exact h
theorem mf_47_4 {P : qa_S → Prop} {N : Nat} {σ : qa_S} {a1 : Nat} {a2 : Int32} {a3 : Int32} {a4 : Nat} (hw : ∀ a j, qb_sc a j → ∀ s v, P s → P (qa_u s a j v)) (hm : ∀ s, P s → P (ma_72_3 N s)) (ha4 : ∀ j, qb_sc a4 j) (h : P σ) : P (ma_47_4 N a1 a2 a3 a4 σ) := by
  unfold ma_47_4
  show (fun (z : qa_S) => P z) _
  refine qb_inP (P := fun (z : qa_S) => P z) (fun r1 er1 => ?_)
  have p_r1 := mg_47_4_p3 hw hm ha4 (N := N) (n := N) (l1 := a1) (l2 := a2) (l3 := a3) (l4 := a4) (s := ((0 : Int32), σ)) h
  rw [← er1] at p_r1
  exact p_r1
theorem mf_46_3 {P : qa_S → Prop} {N : Nat} {σ : qa_S} (hw : ∀ a j, qb_sc a j → ∀ s v, P s → P (qa_u s a j v)) (hm : ∀ s, P s → P (ma_72_3 N s)) (h : P σ) : P (ma_46_3 N σ) := by
  unfold ma_46_3
  show (fun (z : qa_S) => P z) _
  refine qb_inP (P := fun (z : qa_S) => P z) (fun m1 em1 => ?_)
  have p_m1 : P m1 := by rw [em1]; exact mf_47_4 hw hm (qb_q94) h
  exact p_m1
theorem mf_45_3 {P : qa_S → Prop} {N : Nat} {σ : qa_S} {a1 : Int32} {a2 : Int32} (hw : ∀ a j, qb_sc a j → ∀ s v, P s → P (qa_u s a j v)) (hm : ∀ s, P s → P (ma_72_3 N s)) (h : P σ) : P (ma_45_3 N a1 a2 σ).2 := by
  unfold ma_45_3
  show (fun (z : Int32 × qa_S) => P z.2) _
  refine qb_ifP (P := fun (z : Int32 × qa_S) => P z.2) ?_ ?_
  · refine qb_inP (P := fun (z : Int32 × qa_S) => P z.2) (fun m2 em2 => ?_)
    have p_m2 : P m2 := by rw [em2]; exact mf_46_3 hw hm h
    exact p_m2
  · exact h
theorem mf_43_3 {P : qa_S → Prop} {N : Nat} {σ : qa_S} {a1 : Int32} {a2 : Int32} (hw : ∀ a j, qb_sc a j → ∀ s v, P s → P (qa_u s a j v)) (hm : ∀ s, P s → P (ma_72_3 N s)) (h : P σ) : P (ma_43_3 N a1 a2 σ).2 := by
  unfold ma_43_3
  show (fun (z : Int32 × qa_S) => P z.2) _
  refine qb_ifP (P := fun (z : Int32 × qa_S) => P z.2) ?_ ?_
  · refine qb_inP (P := fun (z : Int32 × qa_S) => P z.2) (fun r2 er2 => ?_)
    have p_r2 : P r2.2 := by rw [er2]; exact mf_9_3 hw hm h
    exact p_r2
  · refine qb_ifP (P := fun (z : Int32 × qa_S) => P z.2) ?_ ?_
    · refine qb_inP (P := fun (z : Int32 × qa_S) => P z.2) (fun r4 er4 => ?_)
      have p_r4 : P r4.2 := by rw [er4]; exact mf_9_3 hw hm h
      exact p_r4
    · refine qb_inP (P := fun (z : Int32 × qa_S) => P z.2) (fun r5 er5 => ?_)
      have p_r5 : P r5.2 := by rw [er5]; exact mf_45_3 hw hm h
      exact p_r5
theorem mf_49_3 {P : qa_S → Prop} {N : Nat} {σ : qa_S} {a1 : Int32} {a2 : Int32} {a3 : Int32} (hw : ∀ a j, qb_sc a j → ∀ s v, P s → P (qa_u s a j v)) (hm : ∀ s, P s → P (ma_72_3 N s)) (h : P σ) : P (ma_49_3 N a1 a2 a3 σ).2 := by
  unfold ma_49_3
  show (fun (z : Int32 × qa_S) => P z.2) _
  refine qb_ifP (P := fun (z : Int32 × qa_S) => P z.2) ?_ ?_
  · refine qb_inP (P := fun (z : Int32 × qa_S) => P z.2) (fun r2 er2 => ?_)
    have p_r2 : P r2.2 := by rw [er2]; exact mf_9_3 hw hm h
    exact p_r2
  · refine qb_ifP (P := fun (z : Int32 × qa_S) => P z.2) ?_ ?_
    · refine qb_inP (P := fun (z : Int32 × qa_S) => P z.2) (fun r4 er4 => ?_)
      have p_r4 : P r4.2 := by rw [er4]; exact mf_9_3 hw hm h
      exact p_r4
    · refine qb_ifP (P := fun (z : Int32 × qa_S) => P z.2) ?_ ?_
      · refine qb_inP (P := fun (z : Int32 × qa_S) => P z.2) (fun r6 er6 => ?_)
        have p_r6 : P r6.2 := by rw [er6]; exact mf_9_3 hw hm h
        exact p_r6
      · refine qb_ifP (P := fun (z : Int32 × qa_S) => P z.2) ?_ ?_
        · exact h
        · refine qb_inP (P := fun (z : Int32 × qa_S) => P z.2) (fun r8 er8 => ?_)
          have p_r8 : P r8.2 := by rw [er8]; exact mf_45_3 hw hm h
          exact p_r8
theorem mf_51_3 {P : qa_S → Prop} {N : Nat} {σ : qa_S} {a1 : Int32} {a2 : Int32} {a3 : Int32} (hw : ∀ a j, qb_sc a j → ∀ s v, P s → P (qa_u s a j v)) (hm : ∀ s, P s → P (ma_72_3 N s)) (h : P σ) : P (ma_51_3 N a1 a2 a3 σ).2 := by
  unfold ma_51_3
  show (fun (z : Int32 × qa_S) => P z.2) _
  refine qb_ifP (P := fun (z : Int32 × qa_S) => P z.2) ?_ ?_
  · refine qb_inP (P := fun (z : Int32 × qa_S) => P z.2) (fun r2 er2 => ?_)
    have p_r2 : P r2.2 := by rw [er2]; exact mf_9_3 hw hm h
    exact p_r2
  · refine qb_ifP (P := fun (z : Int32 × qa_S) => P z.2) ?_ ?_
    · refine qb_inP (P := fun (z : Int32 × qa_S) => P z.2) (fun r4 er4 => ?_)
      have p_r4 : P r4.2 := by rw [er4]; exact mf_9_3 hw hm h
      exact p_r4
    · refine qb_inP (P := fun (z : Int32 × qa_S) => P z.2) (fun r5 er5 => ?_)
      exact h
theorem mg_58_3_p2 {P : qa_S → Prop} {N n : Nat} {s : Int32 × qa_S} (hw : ∀ a j, qb_sc a j → ∀ s v, P s → P (qa_u s a j v)) (hm : ∀ s, P s → P (ma_72_3 N s)) (h : P (s.2)) : (fun (b : Int32 × qa_S) => P (b.2)) (qa_wh (fun s => s) (mc_58_3_p2 N) n s) := by
  refine qb_whP (I := (fun (s : Int32 × qa_S) => P (s.2))) (Q := (fun (b : Int32 × qa_S) => P (b.2))) (fun s h => h) (fun s h => ?_) n s h
  unfold mc_58_3_p2
  show (fun (x : (Int32 × qa_S) ⊕ ((Int32 × qa_S))) => qa_cs x (fun (s : Int32 × qa_S) => P (s.2)) (fun (b : Int32 × qa_S) => P (b.2))) _
  refine qb_ifP (P := fun (x : (Int32 × qa_S) ⊕ ((Int32 × qa_S))) => qa_cs x (fun (s : Int32 × qa_S) => P (s.2)) (fun (b : Int32 × qa_S) => P (b.2))) ?_ ?_
  · refine qb_inP (P := fun (x : (Int32 × qa_S) ⊕ ((Int32 × qa_S))) => qa_cs x (fun (s : Int32 × qa_S) => P (s.2)) (fun (b : Int32 × qa_S) => P (b.2))) (fun r2 er2 => ?_)
    refine qb_inP (P := fun (x : (Int32 × qa_S) ⊕ ((Int32 × qa_S))) => qa_cs x (fun (s : Int32 × qa_S) => P (s.2)) (fun (b : Int32 × qa_S) => P (b.2))) (fun m3 em3 => ?_)
    have p_m3 : P m3 := by rw [em3]; exact hw _ _ (qb_q97 _) _ _ h
    exact p_m3
  · exact h
theorem mf_58_3 {P : qa_S → Prop} {N : Nat} {σ : qa_S} (hw : ∀ a j, qb_sc a j → ∀ s v, P s → P (qa_u s a j v)) (hm : ∀ s, P s → P (ma_72_3 N s)) (h : P σ) : P (ma_58_3 N σ) := by
  unfold ma_58_3
  show (fun (z : qa_S) => P z) _
  refine qb_inP (P := fun (z : qa_S) => P z) (fun r1 er1 => ?_)
  have p_r1 := mg_58_3_p2 hw hm (N := N) (n := N)  (s := ((0 : Int32), σ)) h
  rw [← er1] at p_r1
  exact p_r1
theorem mf_56_3 {P : qa_S → Prop} {N : Nat} {σ : qa_S} {a1 : Int32} (hw : ∀ a j, qb_sc a j → ∀ s v, P s → P (qa_u s a j v)) (hm : ∀ s, P s → P (ma_72_3 N s)) (h : P σ) : P (ma_56_3 N a1 σ).2 := by
  unfold ma_56_3
  show (fun (z : Int32 × qa_S) => P z.2) _
  refine qb_ifP (P := fun (z : Int32 × qa_S) => P z.2) ?_ ?_
  · refine qb_inP (P := fun (z : Int32 × qa_S) => P z.2) (fun r2 er2 => ?_)
    have p_r2 : P r2.2 := by rw [er2]; exact mf_9_3 hw hm h
    exact p_r2
  · refine qb_inP (P := fun (z : Int32 × qa_S) => P z.2) (fun m3 em3 => ?_)
    have p_m3 : P m3 := by rw [em3]; exact mf_58_3 hw hm h
    refine qb_inP (P := fun (z : Int32 × qa_S) => P z.2) (fun r4 er4 => ?_)
    refine qb_inP (P := fun (z : Int32 × qa_S) => P z.2) (fun r5 er5 => ?_)
    exact p_m3
theorem mg_68_81_p5 {P : qa_S → Prop} {N n : Nat} {l1 : Int32} {l3 : Int32} {s : Int32 × qa_S} (hw : ∀ a j, qb_sc a j → ∀ s v, P s → P (qa_u s a j v)) (hm : ∀ s, P s → P (ma_72_3 N s)) (h : P (s.2)) : (fun (b : Int32 × qa_S) => P (b.2)) (qa_wh (fun s => s) (mc_68_81_p5 N l1 l3) n s) := by
  refine qb_whP (I := (fun (s : Int32 × qa_S) => P (s.2))) (Q := (fun (b : Int32 × qa_S) => P (b.2))) (fun s h => h) (fun s h => ?_) n s h
  unfold mc_68_81_p5
  show (fun (x : (Int32 × qa_S) ⊕ ((Int32 × qa_S))) => qa_cs x (fun (s : Int32 × qa_S) => P (s.2)) (fun (b : Int32 × qa_S) => P (b.2))) _
  refine qb_ifP (P := fun (x : (Int32 × qa_S) ⊕ ((Int32 × qa_S))) => qa_cs x (fun (s : Int32 × qa_S) => P (s.2)) (fun (b : Int32 × qa_S) => P (b.2))) ?_ ?_
  · refine qb_inP (P := fun (x : (Int32 × qa_S) ⊕ ((Int32 × qa_S))) => qa_cs x (fun (s : Int32 × qa_S) => P (s.2)) (fun (b : Int32 × qa_S) => P (b.2))) (fun m2 em2 => ?_)
    have p_m2 : P m2 := by rw [em2]; exact hw _ _ (qb_q81 _) _ _ h
    exact p_m2
  · exact h
theorem mf_68_81 {P : qa_S → Prop} {N : Nat} {σ : qa_S} {a1 : Int32} (hw : ∀ a j, qb_sc a j → ∀ s v, P s → P (qa_u s a j v)) (hm : ∀ s, P s → P (ma_72_3 N s)) (h : P σ) : P (ma_68_81 N a1 σ) := by
  unfold ma_68_81
  show (fun (z : qa_S) => P z) _
  refine qb_inP (P := fun (z : qa_S) => P z) (fun r1 er1 => ?_)
  have p_r1 := mg_68_81_p5 hw hm (N := N) (n := N) (l1 := a1) (l3 := (4 : Int32)) (s := ((0 : Int32), σ)) h
  rw [← er1] at p_r1
  exact p_r1
theorem mg_68_82_p5 {P : qa_S → Prop} {N n : Nat} {l1 : Int32} {l3 : Int32} {s : Int32 × qa_S} (hw : ∀ a j, qb_sc a j → ∀ s v, P s → P (qa_u s a j v)) (hm : ∀ s, P s → P (ma_72_3 N s)) (h : P (s.2)) : (fun (b : Int32 × qa_S) => P (b.2)) (qa_wh (fun s => s) (mc_68_82_p5 N l1 l3) n s) := by
  refine qb_whP (I := (fun (s : Int32 × qa_S) => P (s.2))) (Q := (fun (b : Int32 × qa_S) => P (b.2))) (fun s h => h) (fun s h => ?_) n s h
  unfold mc_68_82_p5
  show (fun (x : (Int32 × qa_S) ⊕ ((Int32 × qa_S))) => qa_cs x (fun (s : Int32 × qa_S) => P (s.2)) (fun (b : Int32 × qa_S) => P (b.2))) _
  refine qb_ifP (P := fun (x : (Int32 × qa_S) ⊕ ((Int32 × qa_S))) => qa_cs x (fun (s : Int32 × qa_S) => P (s.2)) (fun (b : Int32 × qa_S) => P (b.2))) ?_ ?_
  · refine qb_inP (P := fun (x : (Int32 × qa_S) ⊕ ((Int32 × qa_S))) => qa_cs x (fun (s : Int32 × qa_S) => P (s.2)) (fun (b : Int32 × qa_S) => P (b.2))) (fun m2 em2 => ?_)
    have p_m2 : P m2 := by rw [em2]; exact hw _ _ (qb_q82 _) _ _ h
    exact p_m2
  · exact h
theorem mf_68_82 {P : qa_S → Prop} {N : Nat} {σ : qa_S} {a1 : Int32} (hw : ∀ a j, qb_sc a j → ∀ s v, P s → P (qa_u s a j v)) (hm : ∀ s, P s → P (ma_72_3 N s)) (h : P σ) : P (ma_68_82 N a1 σ) := by
  unfold ma_68_82
  show (fun (z : qa_S) => P z) _
  refine qb_inP (P := fun (z : qa_S) => P z) (fun r1 er1 => ?_)
  have p_r1 := mg_68_82_p5 hw hm (N := N) (n := N) (l1 := a1) (l3 := (4 : Int32)) (s := ((0 : Int32), σ)) h
  rw [← er1] at p_r1
  exact p_r1
theorem mf_67_80 {P : qa_S → Prop} {N : Nat} {σ : qa_S} (hw : ∀ a j, qb_sc a j → ∀ s v, P s → P (qa_u s a j v)) (hm : ∀ s, P s → P (ma_72_3 N s)) (h : P σ) : P (ma_67_80 N σ) := by
  unfold ma_67_80
  show (fun (z : qa_S) => P z) _
  refine qb_inP (P := fun (z : qa_S) => P z) (fun m1 em1 => ?_)
  have p_m1 : P m1 := by rw [em1]; exact mf_68_81 hw hm h
  refine qb_inP (P := fun (z : qa_S) => P z) (fun m2 em2 => ?_)
  have p_m2 : P m2 := by rw [em2]; exact mf_68_82 hw hm p_m1
  exact p_m2
theorem mf_69_80 {P : qa_S → Prop} {N : Nat} {σ : qa_S} {a1 : Int32} {a2 : Int32} {a3 : Int32} (hw : ∀ a j, qb_sc a j → ∀ s v, P s → P (qa_u s a j v)) (hm : ∀ s, P s → P (ma_72_3 N s)) (h : P σ) : P (ma_69_80 a1 a2 a3 σ) := by
  unfold ma_69_80
  show (fun (z : qa_S) => P z) _
  refine qb_inP (P := fun (z : qa_S) => P z) (fun m1 em1 => ?_)
  have p_m1 : P m1 := by rw [em1]; exact hw _ _ (qb_q81 _) _ _ h
  refine qb_inP (P := fun (z : qa_S) => P z) (fun m2 em2 => ?_)
  have p_m2 : P m2 := by rw [em2]; exact hw _ _ (qb_q82 _) _ _ p_m1
  exact p_m2
theorem mg_66_3_p23 {P : qa_S → Prop} {N n : Nat} {l1 : Int32} {l2 : Nat} {l3 : Int32} {s : Int32 × qa_S} (hw : ∀ a j, qb_sc a j → ∀ s v, P s → P (qa_u s a j v)) (hm : ∀ s, P s → P (ma_72_3 N s)) (h : P (s.2)) : (fun (b : Int32 × qa_S) => P (b.2)) (qa_wh (fun s => s) (mc_66_3_p23 N l1 l2 l3) n s) := by
  refine qb_whP (I := (fun (s : Int32 × qa_S) => P (s.2))) (Q := (fun (b : Int32 × qa_S) => P (b.2))) (fun s h => h) (fun s h => ?_) n s h
  unfold mc_66_3_p23
  show (fun (x : (Int32 × qa_S) ⊕ ((Int32 × qa_S))) => qa_cs x (fun (s : Int32 × qa_S) => P (s.2)) (fun (b : Int32 × qa_S) => P (b.2))) _
  refine qb_ifP (P := fun (x : (Int32 × qa_S) ⊕ ((Int32 × qa_S))) => qa_cs x (fun (s : Int32 × qa_S) => P (s.2)) (fun (b : Int32 × qa_S) => P (b.2))) ?_ ?_
  · refine qb_inP (P := fun (x : (Int32 × qa_S) ⊕ ((Int32 × qa_S))) => qa_cs x (fun (s : Int32 × qa_S) => P (s.2)) (fun (b : Int32 × qa_S) => P (b.2))) (fun m4 em4 => ?_)
    have p_m4 : P m4 := by rw [em4]; exact mf_69_80 hw hm h
    refine qb_inP (P := fun (x : (Int32 × qa_S) ⊕ ((Int32 × qa_S))) => qa_cs x (fun (s : Int32 × qa_S) => P (s.2)) (fun (b : Int32 × qa_S) => P (b.2))) (fun m5 em5 => ?_)
    have p_m5 : P m5 := by rw [em5]; exact qb_ifP h p_m4
    refine qb_inP (P := fun (x : (Int32 × qa_S) ⊕ ((Int32 × qa_S))) => qa_cs x (fun (s : Int32 × qa_S) => P (s.2)) (fun (b : Int32 × qa_S) => P (b.2))) (fun m6 em6 => ?_)
    have p_m6 : P m6 := by rw [em6]; exact qb_ifP h p_m5
    exact p_m6
  · exact h
theorem mg_66_3_p9 {P : qa_S → Prop} {N n : Nat} {l1 : Int32} {l2 : Nat} {s : Int32 × qa_S} (hw : ∀ a j, qb_sc a j → ∀ s v, P s → P (qa_u s a j v)) (hm : ∀ s, P s → P (ma_72_3 N s)) (h : P (s.2)) : (fun (b : Int32 × qa_S) => P (b.2)) (qa_wh (fun s => s) (mc_66_3_p9 N l1 l2) n s) := by
  refine qb_whP (I := (fun (s : Int32 × qa_S) => P (s.2))) (Q := (fun (b : Int32 × qa_S) => P (b.2))) (fun s h => h) (fun s h => ?_) n s h
  unfold mc_66_3_p9
  show (fun (x : (Int32 × qa_S) ⊕ ((Int32 × qa_S))) => qa_cs x (fun (s : Int32 × qa_S) => P (s.2)) (fun (b : Int32 × qa_S) => P (b.2))) _
  refine qb_ifP (P := fun (x : (Int32 × qa_S) ⊕ ((Int32 × qa_S))) => qa_cs x (fun (s : Int32 × qa_S) => P (s.2)) (fun (b : Int32 × qa_S) => P (b.2))) ?_ ?_
  · refine qb_inP (P := fun (x : (Int32 × qa_S) ⊕ ((Int32 × qa_S))) => qa_cs x (fun (s : Int32 × qa_S) => P (s.2)) (fun (b : Int32 × qa_S) => P (b.2))) (fun r2 er2 => ?_)
    have p_r2 := mg_66_3_p23 hw hm (N := N) (n := N) (l1 := l1) (l2 := l2) (l3 := s.1) (s := ((0 : Int32), s.2)) h
    rw [← er2] at p_r2
    exact p_r2
  · exact h
theorem mf_66_3 {P : qa_S → Prop} {N : Nat} {σ : qa_S} {a1 : Int32} {a2 : Nat} (hw : ∀ a j, qb_sc a j → ∀ s v, P s → P (qa_u s a j v)) (hm : ∀ s, P s → P (ma_72_3 N s)) (h : P σ) : P (ma_66_3 N a1 a2 σ) := by
  unfold ma_66_3
  show (fun (z : qa_S) => P z) _
  refine qb_inP (P := fun (z : qa_S) => P z) (fun m1 em1 => ?_)
  have p_m1 : P m1 := by rw [em1]; exact mf_67_80 hw hm h
  refine qb_inP (P := fun (z : qa_S) => P z) (fun r2 er2 => ?_)
  have p_r2 := mg_66_3_p9 hw hm (N := N) (n := N) (l1 := a1) (l2 := a2) (s := ((0 : Int32), m1)) p_m1
  rw [← er2] at p_r2
  exact p_r2
theorem mf_65_3 {P : qa_S → Prop} {N : Nat} {σ : qa_S} {a1 : Int32} (hw : ∀ a j, qb_sc a j → ∀ s v, P s → P (qa_u s a j v)) (hm : ∀ s, P s → P (ma_72_3 N s)) (h : P σ) : P (ma_65_3 N a1 σ) := by
  unfold ma_65_3
  show (fun (z : qa_S) => P z) _
  refine qb_inP (P := fun (z : qa_S) => P z) (fun m1 em1 => ?_)
  have p_m1 : P m1 := by rw [em1]; exact mf_46_3 hw hm h
  refine qb_inP (P := fun (z : qa_S) => P z) (fun m2 em2 => ?_)
  have p_m2 : P m2 := by rw [em2]; exact mf_66_3 hw hm p_m1
  exact p_m2
theorem mf_78_3 {P : qa_S → Prop} {N : Nat} {σ : qa_S} {a1 : Int32} {a2 : Int32} (hw : ∀ a j, qb_sc a j → ∀ s v, P s → P (qa_u s a j v)) (hm : ∀ s, P s → P (ma_72_3 N s)) (h : P σ) : P (ma_78_3 N a1 a2 σ).2 := by
  unfold ma_78_3
  show (fun (z : Int32 × qa_S) => P z.2) _
  refine qb_ifP (P := fun (z : Int32 × qa_S) => P z.2) ?_ ?_
  · exact h
  · refine qb_ifP (P := fun (z : Int32 × qa_S) => P z.2) ?_ ?_
    · exact h
    · refine qb_inP (P := fun (z : Int32 × qa_S) => P z.2) (fun m3 em3 => ?_)
      have p_m3 : P m3 := by rw [em3]; exact hm _ h
      exact p_m3
theorem mf_64_3 {P : qa_S → Prop} {N : Nat} {σ : qa_S} {a1 : Int32} (hw : ∀ a j, qb_sc a j → ∀ s v, P s → P (qa_u s a j v)) (hm : ∀ s, P s → P (ma_72_3 N s)) (h : P σ) : P (ma_64_3 N a1 σ).2 := by
  unfold ma_64_3
  show (fun (z : Int32 × qa_S) => P z.2) _
  refine qb_ifP (P := fun (z : Int32 × qa_S) => P z.2) ?_ ?_
  · refine qb_inP (P := fun (z : Int32 × qa_S) => P z.2) (fun r2 er2 => ?_)
    have p_r2 : P r2.2 := by rw [er2]; exact mf_9_3 hw hm h
    exact p_r2
  · refine qb_inP (P := fun (z : Int32 × qa_S) => P z.2) (fun m3 em3 => ?_)
    have p_m3 : P m3 := by rw [em3]; exact mf_65_3 hw hm h
    refine qb_ifP (P := fun (z : Int32 × qa_S) => P z.2) ?_ ?_
    · refine qb_inP (P := fun (z : Int32 × qa_S) => P z.2) (fun m5 em5 => ?_)
      have p_m5 : P m5 := by rw [em5]; exact hm _ p_m3
      refine qb_inP (P := fun (z : Int32 × qa_S) => P z.2) (fun r6 er6 => ?_)
      exact p_m5
    · refine qb_inP (P := fun (z : Int32 × qa_S) => P z.2) (fun m7 em7 => ?_)
      have p_m7 : P m7 := by rw [em7]; exact hm _ p_m3
      refine qb_inP (P := fun (z : Int32 × qa_S) => P z.2) (fun r8 er8 => ?_)
      refine qb_inP (P := fun (z : Int32 × qa_S) => P z.2) (fun r9 er9 => ?_)
      have p_r9 : P r9.2 := by rw [er9]; exact mf_78_3 hw hm p_m7
      exact p_r9
theorem mf_81_3 {P : qa_S → Prop} {N : Nat} {σ : qa_S} {a1 : Int32} (hw : ∀ a j, qb_sc a j → ∀ s v, P s → P (qa_u s a j v)) (hm : ∀ s, P s → P (ma_72_3 N s)) (h : P σ) : P (ma_81_3 a1 σ).2 := by
  unfold ma_81_3
  show (fun (z : Int64 × qa_S) => P z.2) _
  refine qb_inP (P := fun (z : Int64 × qa_S) => P z.2) (fun r1 er1 => ?_)
  have p_r1 : P r1.2 := by rw [er1]; exact mf_9_3 hw hm h
  exact p_r1
theorem mf_80_3 {P : qa_S → Prop} {N : Nat} {σ : qa_S} {a1 : Int32} {a2 : Int32} (hw : ∀ a j, qb_sc a j → ∀ s v, P s → P (qa_u s a j v)) (hm : ∀ s, P s → P (ma_72_3 N s)) (h : P σ) : P (ma_80_3 N a1 a2 σ).2 := by
  unfold ma_80_3
  show (fun (z : Int64 × qa_S) => P z.2) _
  refine qb_ifP (P := fun (z : Int64 × qa_S) => P z.2) ?_ ?_
  · refine qb_inP (P := fun (z : Int64 × qa_S) => P z.2) (fun r2 er2 => ?_)
    have p_r2 : P r2.2 := by rw [er2]; exact mf_81_3 hw hm h
    exact p_r2
  · refine qb_ifP (P := fun (z : Int64 × qa_S) => P z.2) ?_ ?_
    · refine qb_inP (P := fun (z : Int64 × qa_S) => P z.2) (fun r4 er4 => ?_)
      have p_r4 : P r4.2 := by rw [er4]; exact mf_81_3 hw hm h
      exact p_r4
    · refine qb_inP (P := fun (z : Int64 × qa_S) => P z.2) (fun m5 em5 => ?_)
      have p_m5 : P m5 := by rw [em5]; exact mf_65_3 hw hm h
      refine qb_inP (P := fun (z : Int64 × qa_S) => P z.2) (fun m6 em6 => ?_)
      have p_m6 : P m6 := by rw [em6]; exact hm _ p_m5
      refine qb_inP (P := fun (z : Int64 × qa_S) => P z.2) (fun r7 er7 => ?_)
      refine qb_inP (P := fun (z : Int64 × qa_S) => P z.2) (fun m8 em8 => ?_)
      have p_m8 : P m8 := by rw [em8]; exact hm _ p_m6
      refine qb_inP (P := fun (z : Int64 × qa_S) => P z.2) (fun r9 er9 => ?_)
      refine qb_inP (P := fun (z : Int64 × qa_S) => P z.2) (fun r10 er10 => ?_)
      exact p_m8
theorem mg_85_3_p50 {P : qa_S → Prop} {N n : Nat} {l2 : Int32} {l3 : Int32} {s : Int32 × Int32 × qa_S} (hw : ∀ a j, qb_sc a j → ∀ s v, P s → P (qa_u s a j v)) (hm : ∀ s, P s → P (ma_72_3 N s)) (h : P (s.2.2)) : (fun (b : Int32 × Int32 × qa_S) => P (b.2.2)) (qa_wh (fun s => s) (mc_85_3_p50 N l2 l3) n s) := by
  refine qb_whP (I := (fun (s : Int32 × Int32 × qa_S) => P (s.2.2))) (Q := (fun (b : Int32 × Int32 × qa_S) => P (b.2.2))) (fun s h => h) (fun s h => ?_) n s h
  unfold mc_85_3_p50
  show (fun (x : (Int32 × Int32 × qa_S) ⊕ ((Int32 × Int32 × qa_S))) => qa_cs x (fun (s : Int32 × Int32 × qa_S) => P (s.2.2)) (fun (b : Int32 × Int32 × qa_S) => P (b.2.2))) _
  refine qb_ifP (P := fun (x : (Int32 × Int32 × qa_S) ⊕ ((Int32 × Int32 × qa_S))) => qa_cs x (fun (s : Int32 × Int32 × qa_S) => P (s.2.2)) (fun (b : Int32 × Int32 × qa_S) => P (b.2.2))) ?_ ?_
  · refine qb_ifP (P := fun (x : (Int32 × Int32 × qa_S) ⊕ ((Int32 × Int32 × qa_S))) => qa_cs x (fun (s : Int32 × Int32 × qa_S) => P (s.2.2)) (fun (b : Int32 × Int32 × qa_S) => P (b.2.2))) ?_ ?_
    · refine qb_inP (P := fun (x : (Int32 × Int32 × qa_S) ⊕ ((Int32 × Int32 × qa_S))) => qa_cs x (fun (s : Int32 × Int32 × qa_S) => P (s.2.2)) (fun (b : Int32 × Int32 × qa_S) => P (b.2.2))) (fun m3 em3 => ?_)
      have p_m3 : P m3 := by rw [em3]; exact hm _ h
      refine qb_inP (P := fun (x : (Int32 × Int32 × qa_S) ⊕ ((Int32 × Int32 × qa_S))) => qa_cs x (fun (s : Int32 × Int32 × qa_S) => P (s.2.2)) (fun (b : Int32 × Int32 × qa_S) => P (b.2.2))) (fun r4 er4 => ?_)
      exact p_m3
    · exact h
  · exact h
theorem mf_85_3 {P : qa_S → Prop} {N : Nat} {σ : qa_S} {a1 : Int32} (hw : ∀ a j, qb_sc a j → ∀ s v, P s → P (qa_u s a j v)) (hm : ∀ s, P s → P (ma_72_3 N s)) (h : P σ) : P (ma_85_3 N a1 σ).2 := by
  unfold ma_85_3
  show (fun (z : Int32 × qa_S) => P z.2) _
  refine qb_ifP (P := fun (z : Int32 × qa_S) => P z.2) ?_ ?_
  · refine qb_inP (P := fun (z : Int32 × qa_S) => P z.2) (fun r2 er2 => ?_)
    have p_r2 : P r2.2 := by rw [er2]; exact mf_9_3 hw hm h
    exact p_r2
  · refine qb_inP (P := fun (z : Int32 × qa_S) => P z.2) (fun m3 em3 => ?_)
    have p_m3 : P m3 := by rw [em3]; exact mf_65_3 hw hm h
    refine qb_inP (P := fun (z : Int32 × qa_S) => P z.2) (fun m4 em4 => ?_)
    have p_m4 : P m4 := by rw [em4]; exact hm _ p_m3
    refine qb_inP (P := fun (z : Int32 × qa_S) => P z.2) (fun r5 er5 => ?_)
    refine qb_inP (P := fun (z : Int32 × qa_S) => P z.2) (fun r7 er7 => ?_)
    have p_r7 := mg_85_3_p50 hw hm (N := N) (n := N) (l2 := r5) (l3 := (if a1 = (0 : Int32) then r5 else (0 : Int32))) (s := ((0 : Int32), (0 : Int32), m4)) p_m4
    rw [← er7] at p_r7
    exact p_r7
theorem mf_87_3 {P : qa_S → Prop} {N : Nat} {σ : qa_S} {a1 : Int32} (hw : ∀ a j, qb_sc a j → ∀ s v, P s → P (qa_u s a j v)) (hm : ∀ s, P s → P (ma_72_3 N s)) (h : P σ) : P (ma_87_3 N a1 σ).2 := by
  unfold ma_87_3
  show (fun (z : Int32 × qa_S) => P z.2) _
  refine qb_inP (P := fun (z : Int32 × qa_S) => P z.2) (fun m1 em1 => ?_)
  have p_m1 : P m1 := by rw [em1]; exact mf_65_3 hw hm h
  refine qb_inP (P := fun (z : Int32 × qa_S) => P z.2) (fun m2 em2 => ?_)
  have p_m2 : P m2 := by rw [em2]; exact hm _ p_m1
  refine qb_inP (P := fun (z : Int32 × qa_S) => P z.2) (fun r3 er3 => ?_)
  exact p_m2
theorem mg_86_3_p23 {P : qa_S → Prop} {N n : Nat} {l1 : Int32} {s : Int32 × Int32 × Int32 × qa_S} (hw : ∀ a j, qb_sc a j → ∀ s v, P s → P (qa_u s a j v)) (hm : ∀ s, P s → P (ma_72_3 N s)) (h : P (s.2.2.2)) : (fun (b : Int32 × Int32 × Int32 × qa_S) => P (b.2.2.2)) (qa_wh (fun s => s) (mc_86_3_p23 N l1) n s) := by
  refine qb_whP (I := (fun (s : Int32 × Int32 × Int32 × qa_S) => P (s.2.2.2))) (Q := (fun (b : Int32 × Int32 × Int32 × qa_S) => P (b.2.2.2))) (fun s h => h) (fun s h => ?_) n s h
  unfold mc_86_3_p23
  show (fun (x : (Int32 × Int32 × Int32 × qa_S) ⊕ ((Int32 × Int32 × Int32 × qa_S))) => qa_cs x (fun (s : Int32 × Int32 × Int32 × qa_S) => P (s.2.2.2)) (fun (b : Int32 × Int32 × Int32 × qa_S) => P (b.2.2.2))) _
  refine qb_ifP (P := fun (x : (Int32 × Int32 × Int32 × qa_S) ⊕ ((Int32 × Int32 × Int32 × qa_S))) => qa_cs x (fun (s : Int32 × Int32 × Int32 × qa_S) => P (s.2.2.2)) (fun (b : Int32 × Int32 × Int32 × qa_S) => P (b.2.2.2))) ?_ ?_
  · refine qb_inP (P := fun (x : (Int32 × Int32 × Int32 × qa_S) ⊕ ((Int32 × Int32 × Int32 × qa_S))) => qa_cs x (fun (s : Int32 × Int32 × Int32 × qa_S) => P (s.2.2.2)) (fun (b : Int32 × Int32 × Int32 × qa_S) => P (b.2.2.2))) (fun r2 er2 => ?_)
    have p_r2 : P r2.2 := by rw [er2]; exact mf_87_3 hw hm h
    exact p_r2
  · exact h
theorem mf_86_3 {P : qa_S → Prop} {N : Nat} {σ : qa_S} {a1 : Int32} (hw : ∀ a j, qb_sc a j → ∀ s v, P s → P (qa_u s a j v)) (hm : ∀ s, P s → P (ma_72_3 N s)) (h : P σ) : P (ma_86_3 N a1 σ).2 := by
  unfold ma_86_3
  show (fun (z : Int32 × qa_S) => P z.2) _
  refine qb_ifP (P := fun (z : Int32 × qa_S) => P z.2) ?_ ?_
  · refine qb_inP (P := fun (z : Int32 × qa_S) => P z.2) (fun r2 er2 => ?_)
    have p_r2 : P r2.2 := by rw [er2]; exact mf_9_3 hw hm h
    exact p_r2
  · refine qb_inP (P := fun (z : Int32 × qa_S) => P z.2) (fun r3 er3 => ?_)
    have p_r3 := mg_86_3_p23 hw hm (N := N) (n := N) (l1 := a1) (s := ((0 : Int32), (-9 : Int32), (-9 : Int32), σ)) h
    rw [← er3] at p_r3
    exact p_r3
theorem mg_88_3_p16 {P : qa_S → Prop} {N n : Nat} {l1 : Int32} {l3 : Int32} {s : Int32 × Int32 × qa_S} (hw : ∀ a j, qb_sc a j → ∀ s v, P s → P (qa_u s a j v)) (hm : ∀ s, P s → P (ma_72_3 N s)) (h : P (s.2.2)) : (fun (b : Int32 × Int32 × qa_S) => P (b.2.2)) (qa_wh (fun s => s) (mc_88_3_p16 N l1 l3) n s) := by
  refine qb_whP (I := (fun (s : Int32 × Int32 × qa_S) => P (s.2.2))) (Q := (fun (b : Int32 × Int32 × qa_S) => P (b.2.2))) (fun s h => h) (fun s h => ?_) n s h
  unfold mc_88_3_p16
  show (fun (x : (Int32 × Int32 × qa_S) ⊕ ((Int32 × Int32 × qa_S))) => qa_cs x (fun (s : Int32 × Int32 × qa_S) => P (s.2.2)) (fun (b : Int32 × Int32 × qa_S) => P (b.2.2))) _
  refine qb_ifP (P := fun (x : (Int32 × Int32 × qa_S) ⊕ ((Int32 × Int32 × qa_S))) => qa_cs x (fun (s : Int32 × Int32 × qa_S) => P (s.2.2)) (fun (b : Int32 × Int32 × qa_S) => P (b.2.2))) ?_ ?_
  · refine qb_inP (P := fun (x : (Int32 × Int32 × qa_S) ⊕ ((Int32 × Int32 × qa_S))) => qa_cs x (fun (s : Int32 × Int32 × qa_S) => P (s.2.2)) (fun (b : Int32 × Int32 × qa_S) => P (b.2.2))) (fun r3 er3 => ?_)
    have p_r3 : P r3.2 := by rw [er3]; exact mf_87_3 hw hm h
    refine qb_inP (P := fun (x : (Int32 × Int32 × qa_S) ⊕ ((Int32 × Int32 × qa_S))) => qa_cs x (fun (s : Int32 × Int32 × qa_S) => P (s.2.2)) (fun (b : Int32 × Int32 × qa_S) => P (b.2.2))) (fun m5 em5 => ?_)
    have p_m5 : P m5 := by rw [em5]; exact qb_ifP p_r3 h
    exact p_m5
  · exact h
theorem mf_88_3 {P : qa_S → Prop} {N : Nat} {σ : qa_S} (hw : ∀ a j, qb_sc a j → ∀ s v, P s → P (qa_u s a j v)) (hm : ∀ s, P s → P (ma_72_3 N s)) (h : P σ) : P (ma_88_3 N σ).2 := by
  unfold ma_88_3
  show (fun (z : Int32 × qa_S) => P z.2) _
  refine qb_inP (P := fun (z : Int32 × qa_S) => P z.2) (fun r1 er1 => ?_)
  have p_r1 : P r1.2 := by rw [er1]; exact mf_87_3 hw hm h
  refine qb_inP (P := fun (z : Int32 × qa_S) => P z.2) (fun r2 er2 => ?_)
  have p_r2 := mg_88_3_p16 hw hm (N := N) (n := N) (l1 := (ma_60_3 σ)) (l3 := r1.1) (s := ((0 : Int32), (ma_60_3 σ), r1.2)) p_r1
  rw [← er2] at p_r2
  exact p_r2
theorem mf_89_3 {P : qa_S → Prop} {N : Nat} {σ : qa_S} {a1 : Int32} {a2 : Int32} (hw : ∀ a j, qb_sc a j → ∀ s v, P s → P (qa_u s a j v)) (hm : ∀ s, P s → P (ma_72_3 N s)) (h : P σ) : P (ma_89_3 N a1 a2 σ).2 := by
  unfold ma_89_3
  show (fun (z : Int32 × qa_S) => P z.2) _
  refine qb_ifP (P := fun (z : Int32 × qa_S) => P z.2) ?_ ?_
  · refine qb_inP (P := fun (z : Int32 × qa_S) => P z.2) (fun r2 er2 => ?_)
    have p_r2 : P r2.2 := by rw [er2]; exact mf_9_3 hw hm h
    exact p_r2
  · refine qb_ifP (P := fun (z : Int32 × qa_S) => P z.2) ?_ ?_
    · refine qb_inP (P := fun (z : Int32 × qa_S) => P z.2) (fun r4 er4 => ?_)
      have p_r4 : P r4.2 := by rw [er4]; exact mf_9_3 hw hm h
      exact p_r4
    · refine qb_inP (P := fun (z : Int32 × qa_S) => P z.2) (fun m5 em5 => ?_)
      have p_m5 : P m5 := by rw [em5]; exact mf_65_3 hw hm h
      refine qb_inP (P := fun (z : Int32 × qa_S) => P z.2) (fun m6 em6 => ?_)
      have p_m6 : P m6 := by rw [em6]; exact hm _ p_m5
      refine qb_inP (P := fun (z : Int32 × qa_S) => P z.2) (fun r7 er7 => ?_)
      refine qb_ifP (P := fun (z : Int32 × qa_S) => P z.2) ?_ ?_
      · exact p_m6
      · refine qb_inP (P := fun (z : Int32 × qa_S) => P z.2) (fun m9 em9 => ?_)
        have p_m9 : P m9 := by rw [em9]; exact hm _ p_m6
        refine qb_inP (P := fun (z : Int32 × qa_S) => P z.2) (fun r10 er10 => ?_)
        exact p_m9
theorem mf_90_3 {P : qa_S → Prop} {N : Nat} {σ : qa_S} (hw : ∀ a j, qb_sc a j → ∀ s v, P s → P (qa_u s a j v)) (hm : ∀ s, P s → P (ma_72_3 N s)) (h : P σ) : P (ma_90_3 N σ).2 := by
  unfold ma_90_3
  show (fun (z : Int32 × qa_S) => P z.2) _
  refine qb_inP (P := fun (z : Int32 × qa_S) => P z.2) (fun m1 em1 => ?_)
  have p_m1 : P m1 := by rw [em1]; exact mf_58_3 hw hm h
  refine qb_inP (P := fun (z : Int32 × qa_S) => P z.2) (fun r2 er2 => ?_)
  refine qb_inP (P := fun (z : Int32 × qa_S) => P z.2) (fun r3 er3 => ?_)
  exact p_m1
theorem mg_93_89_p12 {P : qa_S → Prop} {N n : Nat} {s : Int32 × qa_S} (hw : ∀ a j, qb_sc a j → ∀ s v, P s → P (qa_u s a j v)) (hm : ∀ s, P s → P (ma_72_3 N s)) (h : P (s.2)) : (fun (b : Int32 × qa_S) => P (b.2)) (qa_wh (fun s => s) (mc_93_89_p12 N) n s) := by
  refine qb_whP (I := (fun (s : Int32 × qa_S) => P (s.2))) (Q := (fun (b : Int32 × qa_S) => P (b.2))) (fun s h => h) (fun s h => ?_) n s h
  unfold mc_93_89_p12
  show (fun (x : (Int32 × qa_S) ⊕ ((Int32 × qa_S))) => qa_cs x (fun (s : Int32 × qa_S) => P (s.2)) (fun (b : Int32 × qa_S) => P (b.2))) _
  refine qb_ifP (P := fun (x : (Int32 × qa_S) ⊕ ((Int32 × qa_S))) => qa_cs x (fun (s : Int32 × qa_S) => P (s.2)) (fun (b : Int32 × qa_S) => P (b.2))) ?_ ?_
  · refine qb_inP (P := fun (x : (Int32 × qa_S) ⊕ ((Int32 × qa_S))) => qa_cs x (fun (s : Int32 × qa_S) => P (s.2)) (fun (b : Int32 × qa_S) => P (b.2))) (fun m2 em2 => ?_)
    have p_m2 : P m2 := by rw [em2]; exact hw _ _ (qb_q90 _) _ _ h
    exact p_m2
  · exact h
theorem mf_93_89 {P : qa_S → Prop} {N : Nat} {σ : qa_S} {a1 : Int32} (hw : ∀ a j, qb_sc a j → ∀ s v, P s → P (qa_u s a j v)) (hm : ∀ s, P s → P (ma_72_3 N s)) (h : P σ) : P (ma_93_89 N a1 σ) := by
  unfold ma_93_89
  show (fun (z : qa_S) => P z) _
  refine qb_inP (P := fun (z : qa_S) => P z) (fun m1 em1 => ?_)
  have p_m1 : P m1 := by rw [em1]; exact hw _ _ (qb_q89 _) _ _ h
  refine qb_inP (P := fun (z : qa_S) => P z) (fun r2 er2 => ?_)
  have p_r2 := mg_93_89_p12 hw hm (N := N) (n := N)  (s := ((0 : Int32), m1)) p_m1
  rw [← er2] at p_r2
  exact p_r2
theorem mf_97_89 {P : qa_S → Prop} {N : Nat} {σ : qa_S} {a1 : Int32} {a2 : Int32} (hw : ∀ a j, qb_sc a j → ∀ s v, P s → P (qa_u s a j v)) (hm : ∀ s, P s → P (ma_72_3 N s)) (h : P σ) : P (ma_97_89 a1 a2 σ) := by
  unfold ma_97_89
  show (fun (z : qa_S) => P z) _
  refine qb_inP (P := fun (z : qa_S) => P z) (fun m1 em1 => ?_)
  have p_m1 : P m1 := by rw [em1]; exact hw _ _ (qb_q90 _) _ _ h
  refine qb_inP (P := fun (z : qa_S) => P z) (fun m2 em2 => ?_)
  have p_m2 : P m2 := by rw [em2]; exact hw _ _ (qb_q90 _) _ _ p_m1
  exact p_m2
theorem mg_96_89_p91 {P : qa_S → Prop} {N n : Nat} {s : Int32 × Int32 × qa_S} (hw : ∀ a j, qb_sc a j → ∀ s v, P s → P (qa_u s a j v)) (hm : ∀ s, P s → P (ma_72_3 N s)) (h : P (s.2.2)) : (fun (b : Int32 × Int32 × qa_S) => P (b.2.2)) (qa_wh (fun s => s) (mc_96_89_p91 N) n s) := by
  refine qb_whP (I := (fun (s : Int32 × Int32 × qa_S) => P (s.2.2))) (Q := (fun (b : Int32 × Int32 × qa_S) => P (b.2.2))) (fun s h => h) (fun s h => ?_) n s h
  unfold mc_96_89_p91
  show (fun (x : (Int32 × Int32 × qa_S) ⊕ ((Int32 × Int32 × qa_S))) => qa_cs x (fun (s : Int32 × Int32 × qa_S) => P (s.2.2)) (fun (b : Int32 × Int32 × qa_S) => P (b.2.2))) _
  refine qb_ifP (P := fun (x : (Int32 × Int32 × qa_S) ⊕ ((Int32 × Int32 × qa_S))) => qa_cs x (fun (s : Int32 × Int32 × qa_S) => P (s.2.2)) (fun (b : Int32 × Int32 × qa_S) => P (b.2.2))) ?_ ?_
  · refine qb_inP (P := fun (x : (Int32 × Int32 × qa_S) ⊕ ((Int32 × Int32 × qa_S))) => qa_cs x (fun (s : Int32 × Int32 × qa_S) => P (s.2.2)) (fun (b : Int32 × Int32 × qa_S) => P (b.2.2))) (fun m2 em2 => ?_)
    have p_m2 : P m2 := by rw [em2]; exact mf_97_89 hw hm h
    exact p_m2
  · exact h
theorem mf_96_89 {P : qa_S → Prop} {N : Nat} {σ : qa_S} (hw : ∀ a j, qb_sc a j → ∀ s v, P s → P (qa_u s a j v)) (hm : ∀ s, P s → P (ma_72_3 N s)) (h : P σ) : P (ma_96_89 N σ).2 := by
  unfold ma_96_89
  show (fun (z : Int32 × qa_S) => P z.2) _
  refine qb_inP (P := fun (z : Int32 × qa_S) => P z.2) (fun r1 er1 => ?_)
  refine qb_ifP (P := fun (z : Int32 × qa_S) => P z.2) ?_ ?_
  · exact h
  · refine qb_inP (P := fun (z : Int32 × qa_S) => P z.2) (fun r3 er3 => ?_)
    refine qb_inP (P := fun (z : Int32 × qa_S) => P z.2) (fun m4 em4 => ?_)
    have p_m4 : P m4 := by rw [em4]; exact mf_97_89 hw hm h
    refine qb_inP (P := fun (z : Int32 × qa_S) => P z.2) (fun r5 er5 => ?_)
    have p_r5 := mg_96_89_p91 hw hm (N := N) (n := N)  (s := (((m4 89 0) - (1 : Int32)), (r1 + (1 : Int32)), m4)) p_m4
    rw [← er5] at p_r5
    exact p_r5
theorem mg_92_3_p18 {P : qa_S → Prop} {N n : Nat} {l1 : Int32} {s : Int32 × Int32 × qa_S} (hw : ∀ a j, qb_sc a j → ∀ s v, P s → P (qa_u s a j v)) (hm : ∀ s, P s → P (ma_72_3 N s)) (h : P (s.2.2)) : (fun (b : Int32 × Int32 × qa_S) => P (b.2.2)) (qa_wh (fun s => s) (mc_92_3_p18 N l1) n s) := by
  refine qb_whP (I := (fun (s : Int32 × Int32 × qa_S) => P (s.2.2))) (Q := (fun (b : Int32 × Int32 × qa_S) => P (b.2.2))) (fun s h => h) (fun s h => ?_) n s h
  unfold mc_92_3_p18
  show (fun (x : (Int32 × Int32 × qa_S) ⊕ ((Int32 × Int32 × qa_S))) => qa_cs x (fun (s : Int32 × Int32 × qa_S) => P (s.2.2)) (fun (b : Int32 × Int32 × qa_S) => P (b.2.2))) _
  refine qb_ifP (P := fun (x : (Int32 × Int32 × qa_S) ⊕ ((Int32 × Int32 × qa_S))) => qa_cs x (fun (s : Int32 × Int32 × qa_S) => P (s.2.2)) (fun (b : Int32 × Int32 × qa_S) => P (b.2.2))) ?_ ?_
  · refine qb_inP (P := fun (x : (Int32 × Int32 × qa_S) ⊕ ((Int32 × Int32 × qa_S))) => qa_cs x (fun (s : Int32 × Int32 × qa_S) => P (s.2.2)) (fun (b : Int32 × Int32 × qa_S) => P (b.2.2))) (fun r2 er2 => ?_)
    refine qb_inP (P := fun (x : (Int32 × Int32 × qa_S) ⊕ ((Int32 × Int32 × qa_S))) => qa_cs x (fun (s : Int32 × Int32 × qa_S) => P (s.2.2)) (fun (b : Int32 × Int32 × qa_S) => P (b.2.2))) (fun m4 em4 => ?_)
    have p_m4 : P m4 := by rw [em4]; exact qb_cpP (fun j => hw 91 j (qb_q91 j)) h
    refine qb_inP (P := fun (x : (Int32 × Int32 × qa_S) ⊕ ((Int32 × Int32 × qa_S))) => qa_cs x (fun (s : Int32 × Int32 × qa_S) => P (s.2.2)) (fun (b : Int32 × Int32 × qa_S) => P (b.2.2))) (fun m6 em6 => ?_)
    have p_m6 : P m6 := by rw [em6]; exact qb_cpP (fun j => hw 91 j (qb_q91 j)) h
    refine qb_inP (P := fun (x : (Int32 × Int32 × qa_S) ⊕ ((Int32 × Int32 × qa_S))) => qa_cs x (fun (s : Int32 × Int32 × qa_S) => P (s.2.2)) (fun (b : Int32 × Int32 × qa_S) => P (b.2.2))) (fun m7 em7 => ?_)
    have p_m7 : P m7 := by rw [em7]; exact qb_ifP p_m6 h
    refine qb_inP (P := fun (x : (Int32 × Int32 × qa_S) ⊕ ((Int32 × Int32 × qa_S))) => qa_cs x (fun (s : Int32 × Int32 × qa_S) => P (s.2.2)) (fun (b : Int32 × Int32 × qa_S) => P (b.2.2))) (fun m8 em8 => ?_)
    have p_m8 : P m8 := by rw [em8]; exact qb_ifP p_m4 p_m7
    refine qb_inP (P := fun (x : (Int32 × Int32 × qa_S) ⊕ ((Int32 × Int32 × qa_S))) => qa_cs x (fun (s : Int32 × Int32 × qa_S) => P (s.2.2)) (fun (b : Int32 × Int32 × qa_S) => P (b.2.2))) (fun r9 er9 => ?_)
    have p_r9 : P r9.2 := by rw [er9]; exact mf_96_89 hw hm p_m8
    refine qb_ifP (P := fun (x : (Int32 × Int32 × qa_S) ⊕ ((Int32 × Int32 × qa_S))) => qa_cs x (fun (s : Int32 × Int32 × qa_S) => P (s.2.2)) (fun (b : Int32 × Int32 × qa_S) => P (b.2.2))) ?_ ?_
    · exact p_r9
    · exact p_r9
  · exact h
theorem mf_92_3 {P : qa_S → Prop} {N : Nat} {σ : qa_S} {a1 : Int32} (hw : ∀ a j, qb_sc a j → ∀ s v, P s → P (qa_u s a j v)) (hm : ∀ s, P s → P (ma_72_3 N s)) (h : P σ) : P (ma_92_3 N a1 σ).2 := by
  unfold ma_92_3
  show (fun (z : Int32 × qa_S) => P z.2) _
  refine qb_inP (P := fun (z : Int32 × qa_S) => P z.2) (fun m1 em1 => ?_)
  have p_m1 : P m1 := by rw [em1]; exact mf_93_89 hw hm h
  refine qb_inP (P := fun (z : Int32 × qa_S) => P z.2) (fun r2 er2 => ?_)
  have p_r2 := mg_92_3_p18 hw hm (N := N) (n := N) (l1 := a1) (s := ((0 : Int32), (0 : Int32), m1)) p_m1
  rw [← er2] at p_r2
  exact p_r2
theorem mf_91_3 {P : qa_S → Prop} {N : Nat} {σ : qa_S} {a1 : Int32} {a2 : Int32} (hw : ∀ a j, qb_sc a j → ∀ s v, P s → P (qa_u s a j v)) (hm : ∀ s, P s → P (ma_72_3 N s)) (h : P σ) : P (ma_91_3 N a1 a2 σ).2 := by
  unfold ma_91_3
  show (fun (z : Int32 × qa_S) => P z.2) _
  refine qb_ifP (P := fun (z : Int32 × qa_S) => P z.2) ?_ ?_
  · refine qb_inP (P := fun (z : Int32 × qa_S) => P z.2) (fun r2 er2 => ?_)
    have p_r2 : P r2.2 := by rw [er2]; exact mf_9_3 hw hm h
    exact p_r2
  · refine qb_ifP (P := fun (z : Int32 × qa_S) => P z.2) ?_ ?_
    · refine qb_inP (P := fun (z : Int32 × qa_S) => P z.2) (fun r4 er4 => ?_)
      have p_r4 : P r4.2 := by rw [er4]; exact mf_9_3 hw hm h
      exact p_r4
    · refine qb_ifP (P := fun (z : Int32 × qa_S) => P z.2) ?_ ?_
      · refine qb_inP (P := fun (z : Int32 × qa_S) => P z.2) (fun r6 er6 => ?_)
        have p_r6 : P r6.2 := by rw [er6]; exact mf_9_3 hw hm h
        exact p_r6
      · refine qb_inP (P := fun (z : Int32 × qa_S) => P z.2) (fun r7 er7 => ?_)
        have p_r7 : P r7.2 := by rw [er7]; exact mf_92_3 hw hm h
        refine qb_ifP (P := fun (z : Int32 × qa_S) => P z.2) ?_ ?_
        · exact p_r7
        · exact p_r7
theorem mg_98_3_p27 {P : qa_S → Prop} {N n : Nat} {l1 : Int32} {s : Int32 × Int32 × Int32 × qa_S} (hw : ∀ a j, qb_sc a j → ∀ s v, P s → P (qa_u s a j v)) (hm : ∀ s, P s → P (ma_72_3 N s)) (h : P (s.2.2.2)) : (fun (b : Int32 × Int32 × Int32 × qa_S) => P (b.2.2.2)) (qa_wh (fun s => s) (mc_98_3_p27 N l1) n s) := by
  refine qb_whP (I := (fun (s : Int32 × Int32 × Int32 × qa_S) => P (s.2.2.2))) (Q := (fun (b : Int32 × Int32 × Int32 × qa_S) => P (b.2.2.2))) (fun s h => h) (fun s h => ?_) n s h
  unfold mc_98_3_p27
  show (fun (x : (Int32 × Int32 × Int32 × qa_S) ⊕ ((Int32 × Int32 × Int32 × qa_S))) => qa_cs x (fun (s : Int32 × Int32 × Int32 × qa_S) => P (s.2.2.2)) (fun (b : Int32 × Int32 × Int32 × qa_S) => P (b.2.2.2))) _
  refine qb_ifP (P := fun (x : (Int32 × Int32 × Int32 × qa_S) ⊕ ((Int32 × Int32 × Int32 × qa_S))) => qa_cs x (fun (s : Int32 × Int32 × Int32 × qa_S) => P (s.2.2.2)) (fun (b : Int32 × Int32 × Int32 × qa_S) => P (b.2.2.2))) ?_ ?_
  · refine qb_inP (P := fun (x : (Int32 × Int32 × Int32 × qa_S) ⊕ ((Int32 × Int32 × Int32 × qa_S))) => qa_cs x (fun (s : Int32 × Int32 × Int32 × qa_S) => P (s.2.2.2)) (fun (b : Int32 × Int32 × Int32 × qa_S) => P (b.2.2.2))) (fun m3 em3 => ?_)
    have p_m3 : P m3 := by rw [em3]; exact mf_47_4 hw hm (qb_q95) h
    refine qb_inP (P := fun (x : (Int32 × Int32 × Int32 × qa_S) ⊕ ((Int32 × Int32 × Int32 × qa_S))) => qa_cs x (fun (s : Int32 × Int32 × Int32 × qa_S) => P (s.2.2.2)) (fun (b : Int32 × Int32 × Int32 × qa_S) => P (b.2.2.2))) (fun r4 er4 => ?_)
    refine qb_inP (P := fun (x : (Int32 × Int32 × Int32 × qa_S) ⊕ ((Int32 × Int32 × Int32 × qa_S))) => qa_cs x (fun (s : Int32 × Int32 × Int32 × qa_S) => P (s.2.2.2)) (fun (b : Int32 × Int32 × Int32 × qa_S) => P (b.2.2.2))) (fun m7 em7 => ?_)
    have p_m7 : P m7 := by rw [em7]; exact qb_ifP h p_m3
    exact p_m7
  · exact h
theorem mf_98_3 {P : qa_S → Prop} {N : Nat} {σ : qa_S} {a1 : Int32} (hw : ∀ a j, qb_sc a j → ∀ s v, P s → P (qa_u s a j v)) (hm : ∀ s, P s → P (ma_72_3 N s)) (h : P σ) : P (ma_98_3 N a1 σ).2 := by
  unfold ma_98_3
  show (fun (z : Int32 × qa_S) => P z.2) _
  refine qb_ifP (P := fun (z : Int32 × qa_S) => P z.2) ?_ ?_
  · refine qb_inP (P := fun (z : Int32 × qa_S) => P z.2) (fun r2 er2 => ?_)
    have p_r2 : P r2.2 := by rw [er2]; exact mf_9_3 hw hm h
    exact p_r2
  · refine qb_inP (P := fun (z : Int32 × qa_S) => P z.2) (fun m3 em3 => ?_)
    have p_m3 : P m3 := by rw [em3]; exact mf_46_3 hw hm h
    refine qb_inP (P := fun (z : Int32 × qa_S) => P z.2) (fun r4 er4 => ?_)
    have p_r4 := mg_98_3_p27 hw hm (N := N) (n := N) (l1 := a1) (s := ((0 : Int32), (-9 : Int32), (-9 : Int32), m3)) p_m3
    rw [← er4] at p_r4
    exact p_r4
theorem mf_102_3 {P : qa_S → Prop} {N : Nat} {σ : qa_S} {a1 : Int32} {a2 : Int32} {a3 : Int32} {a4 : Int32} (hw : ∀ a j, qb_sc a j → ∀ s v, P s → P (qa_u s a j v)) (hm : ∀ s, P s → P (ma_72_3 N s)) (h : P σ) : P (ma_102_3 N a1 a2 a3 a4 σ).2 := by
  unfold ma_102_3
  show (fun (z : Int32 × qa_S) => P z.2) _
  refine qb_ifP (P := fun (z : Int32 × qa_S) => P z.2) ?_ ?_
  · refine qb_inP (P := fun (z : Int32 × qa_S) => P z.2) (fun r2 er2 => ?_)
    have p_r2 : P r2.2 := by rw [er2]; exact mf_9_3 hw hm h
    exact p_r2
  · refine qb_ifP (P := fun (z : Int32 × qa_S) => P z.2) ?_ ?_
    · refine qb_inP (P := fun (z : Int32 × qa_S) => P z.2) (fun r4 er4 => ?_)
      have p_r4 : P r4.2 := by rw [er4]; exact mf_9_3 hw hm h
      exact p_r4
    · refine qb_ifP (P := fun (z : Int32 × qa_S) => P z.2) ?_ ?_
      · refine qb_inP (P := fun (z : Int32 × qa_S) => P z.2) (fun r6 er6 => ?_)
        have p_r6 : P r6.2 := by rw [er6]; exact mf_9_3 hw hm h
        exact p_r6
      · refine qb_ifP (P := fun (z : Int32 × qa_S) => P z.2) ?_ ?_
        · refine qb_inP (P := fun (z : Int32 × qa_S) => P z.2) (fun r8 er8 => ?_)
          have p_r8 : P r8.2 := by rw [er8]; exact mf_9_3 hw hm h
          exact p_r8
        · refine qb_ifP (P := fun (z : Int32 × qa_S) => P z.2) ?_ ?_
          · refine qb_inP (P := fun (z : Int32 × qa_S) => P z.2) (fun r10 er10 => ?_)
            have p_r10 : P r10.2 := by rw [er10]; exact mf_9_3 hw hm h
            exact p_r10
          · refine qb_ifP (P := fun (z : Int32 × qa_S) => P z.2) ?_ ?_
            · refine qb_inP (P := fun (z : Int32 × qa_S) => P z.2) (fun r12 er12 => ?_)
              have p_r12 : P r12.2 := by rw [er12]; exact mf_9_3 hw hm h
              exact p_r12
            · refine qb_inP (P := fun (z : Int32 × qa_S) => P z.2) (fun m13 em13 => ?_)
              have p_m13 : P m13 := by rw [em13]; exact mf_65_3 hw hm h
              refine qb_inP (P := fun (z : Int32 × qa_S) => P z.2) (fun m14 em14 => ?_)
              have p_m14 : P m14 := by rw [em14]; exact hm _ p_m13
              refine qb_inP (P := fun (z : Int32 × qa_S) => P z.2) (fun r15 er15 => ?_)
              refine qb_inP (P := fun (z : Int32 × qa_S) => P z.2) (fun m16 em16 => ?_)
              have p_m16 : P m16 := by rw [em16]; exact hm _ p_m14
              refine qb_inP (P := fun (z : Int32 × qa_S) => P z.2) (fun r17 er17 => ?_)
              refine qb_ifP (P := fun (z : Int32 × qa_S) => P z.2) ?_ ?_
              · exact p_m16
              · refine qb_inP (P := fun (z : Int32 × qa_S) => P z.2) (fun r20 er20 => ?_)
                refine qb_csP (P := fun (z : Int32 × qa_S) => P z.2) (fun b21 q => ?_) (fun b21 q => ?_)
                · exact p_m16
                · exact p_m16
theorem mf_105_3 {P : qa_S → Prop} {N : Nat} {σ : qa_S} {a1 : Int32} (hw : ∀ a j, qb_sc a j → ∀ s v, P s → P (qa_u s a j v)) (hm : ∀ s, P s → P (ma_72_3 N s)) (h : P σ) : P (ma_105_3 N a1 σ).2 := by
  unfold ma_105_3
  show (fun (z : Int32 × qa_S) => P z.2) _
  refine qb_inP (P := fun (z : Int32 × qa_S) => P z.2) (fun m1 em1 => ?_)
  have p_m1 : P m1 := by rw [em1]; exact mf_47_4 hw hm (qb_q95) h
  refine qb_inP (P := fun (z : Int32 × qa_S) => P z.2) (fun r2 er2 => ?_)
  exact p_m1
theorem mg_103_3_p73 {P : qa_S → Prop} {N n : Nat} {l1 : Int32} {l2 : Int32} {l3 : Int32} {l4 : Int32} {s : Int32 × Int64 × qa_S} (hw : ∀ a j, qb_sc a j → ∀ s v, P s → P (qa_u s a j v)) (hm : ∀ s, P s → P (ma_72_3 N s)) (h : P (s.2.2)) : (fun (b : Int32 × Int64 × qa_S) => P (b.2.2)) (qa_wh (fun s => s) (mc_103_3_p73 N l1 l2 l3 l4) n s) := by
  refine qb_whP (I := (fun (s : Int32 × Int64 × qa_S) => P (s.2.2))) (Q := (fun (b : Int32 × Int64 × qa_S) => P (b.2.2))) (fun s h => h) (fun s h => ?_) n s h
  unfold mc_103_3_p73
  show (fun (x : (Int32 × Int64 × qa_S) ⊕ ((Int32 × Int64 × qa_S))) => qa_cs x (fun (s : Int32 × Int64 × qa_S) => P (s.2.2)) (fun (b : Int32 × Int64 × qa_S) => P (b.2.2))) _
  refine qb_ifP (P := fun (x : (Int32 × Int64 × qa_S) ⊕ ((Int32 × Int64 × qa_S))) => qa_cs x (fun (s : Int32 × Int64 × qa_S) => P (s.2.2)) (fun (b : Int32 × Int64 × qa_S) => P (b.2.2))) ?_ ?_
  · refine qb_inP (P := fun (x : (Int32 × Int64 × qa_S) ⊕ ((Int32 × Int64 × qa_S))) => qa_cs x (fun (s : Int32 × Int64 × qa_S) => P (s.2.2)) (fun (b : Int32 × Int64 × qa_S) => P (b.2.2))) (fun r3 er3 => ?_)
    have p_r3 : P r3.2 := by rw [er3]; exact mf_105_3 hw hm h
    refine qb_inP (P := fun (x : (Int32 × Int64 × qa_S) ⊕ ((Int32 × Int64 × qa_S))) => qa_cs x (fun (s : Int32 × Int64 × qa_S) => P (s.2.2)) (fun (b : Int32 × Int64 × qa_S) => P (b.2.2))) (fun r4 er4 => ?_)
    have p_r4 : P r4.2 := by rw [er4]; exact mf_105_3 hw hm p_r3
    refine qb_inP (P := fun (x : (Int32 × Int64 × qa_S) ⊕ ((Int32 × Int64 × qa_S))) => qa_cs x (fun (s : Int32 × Int64 × qa_S) => P (s.2.2)) (fun (b : Int32 × Int64 × qa_S) => P (b.2.2))) (fun m5 em5 => ?_)
    have p_m5 : P m5 := by rw [em5]; exact qb_ifP p_r4 h
    exact p_m5
  · exact h
theorem mf_103_3 {P : qa_S → Prop} {N : Nat} {σ : qa_S} {a1 : Int32} {a2 : Int32} (hw : ∀ a j, qb_sc a j → ∀ s v, P s → P (qa_u s a j v)) (hm : ∀ s, P s → P (ma_72_3 N s)) (h : P σ) : P (ma_103_3 N a1 a2 σ).2 := by
  unfold ma_103_3
  show (fun (z : Int64 × qa_S) => P z.2) _
  refine qb_ifP (P := fun (z : Int64 × qa_S) => P z.2) ?_ ?_
  · refine qb_inP (P := fun (z : Int64 × qa_S) => P z.2) (fun r2 er2 => ?_)
    have p_r2 : P r2.2 := by rw [er2]; exact mf_81_3 hw hm h
    exact p_r2
  · refine qb_ifP (P := fun (z : Int64 × qa_S) => P z.2) ?_ ?_
    · refine qb_inP (P := fun (z : Int64 × qa_S) => P z.2) (fun r4 er4 => ?_)
      have p_r4 : P r4.2 := by rw [er4]; exact mf_81_3 hw hm h
      exact p_r4
    · refine qb_ifP (P := fun (z : Int64 × qa_S) => P z.2) ?_ ?_
      · refine qb_inP (P := fun (z : Int64 × qa_S) => P z.2) (fun r6 er6 => ?_)
        have p_r6 : P r6.2 := by rw [er6]; exact mf_81_3 hw hm h
        exact p_r6
      · refine qb_inP (P := fun (z : Int64 × qa_S) => P z.2) (fun r7 er7 => ?_)
        refine qb_inP (P := fun (z : Int64 × qa_S) => P z.2) (fun r8 er8 => ?_)
        have p_r8 := mg_103_3_p73 hw hm (N := N) (n := N) (l1 := a1) (l2 := a2) (l3 := (r7 &&& (((1 : Int32) <<< (a1 &&& 31)) ^^^ (-1 : Int32)))) (l4 := (ma_63 (r7 &&& (((1 : Int32) <<< (a1 &&& 31)) ^^^ (-1 : Int32))))) (s := ((0 : Int32), (0 : Int64), σ)) h
        rw [← er8] at p_r8
        refine qb_inP (P := fun (z : Int64 × qa_S) => P z.2) (fun r9 er9 => ?_)
        exact p_r8
theorem mf_106_3 {P : qa_S → Prop} {N : Nat} {σ : qa_S} {a1 : Int32} {a2 : Int32} (hw : ∀ a j, qb_sc a j → ∀ s v, P s → P (qa_u s a j v)) (hm : ∀ s, P s → P (ma_72_3 N s)) (h : P σ) : P (ma_106_3 N a1 a2 σ).2 := by
  unfold ma_106_3
  show (fun (z : Int64 × qa_S) => P z.2) _
  refine qb_ifP (P := fun (z : Int64 × qa_S) => P z.2) ?_ ?_
  · refine qb_inP (P := fun (z : Int64 × qa_S) => P z.2) (fun r2 er2 => ?_)
    have p_r2 : P r2.2 := by rw [er2]; exact mf_81_3 hw hm h
    exact p_r2
  · refine qb_ifP (P := fun (z : Int64 × qa_S) => P z.2) ?_ ?_
    · refine qb_inP (P := fun (z : Int64 × qa_S) => P z.2) (fun r4 er4 => ?_)
      have p_r4 : P r4.2 := by rw [er4]; exact mf_81_3 hw hm h
      exact p_r4
    · refine qb_ifP (P := fun (z : Int64 × qa_S) => P z.2) ?_ ?_
      · refine qb_inP (P := fun (z : Int64 × qa_S) => P z.2) (fun r6 er6 => ?_)
        have p_r6 : P r6.2 := by rw [er6]; exact mf_81_3 hw hm h
        exact p_r6
      · refine qb_inP (P := fun (z : Int64 × qa_S) => P z.2) (fun m7 em7 => ?_)
        have p_m7 : P m7 := by rw [em7]; exact mf_58_3 hw hm h
        refine qb_inP (P := fun (z : Int64 × qa_S) => P z.2) (fun r8 er8 => ?_)
        refine qb_inP (P := fun (z : Int64 × qa_S) => P z.2) (fun r9 er9 => ?_)
        refine qb_inP (P := fun (z : Int64 × qa_S) => P z.2) (fun r10 er10 => ?_)
        refine qb_inP (P := fun (z : Int64 × qa_S) => P z.2) (fun r11 er11 => ?_)
        exact p_m7
theorem mf_108_3 {P : qa_S → Prop} {N : Nat} {σ : qa_S} {a1 : Int32} (hw : ∀ a j, qb_sc a j → ∀ s v, P s → P (qa_u s a j v)) (hm : ∀ s, P s → P (ma_72_3 N s)) (h : P σ) : P (ma_108_3 N a1 σ).2 := by
  unfold ma_108_3
  show (fun (z : Int32 × qa_S) => P z.2) _
  refine qb_ifP (P := fun (z : Int32 × qa_S) => P z.2) ?_ ?_
  · refine qb_inP (P := fun (z : Int32 × qa_S) => P z.2) (fun r2 er2 => ?_)
    have p_r2 : P r2.2 := by rw [er2]; exact mf_9_3 hw hm h
    exact p_r2
  · refine qb_inP (P := fun (z : Int32 × qa_S) => P z.2) (fun r3 er3 => ?_)
    refine qb_ifP (P := fun (z : Int32 × qa_S) => P z.2) ?_ ?_
    · refine qb_inP (P := fun (z : Int32 × qa_S) => P z.2) (fun r5 er5 => ?_)
      have p_r5 : P r5.2 := by rw [er5]; exact mf_9_3 hw hm h
      exact p_r5
    · refine qb_inP (P := fun (z : Int32 × qa_S) => P z.2) (fun m6 em6 => ?_)
      have p_m6 : P m6 := by rw [em6]; exact mf_46_3 hw hm h
      refine qb_inP (P := fun (z : Int32 × qa_S) => P z.2) (fun m7 em7 => ?_)
      have p_m7 : P m7 := by rw [em7]; exact mf_47_4 hw hm (qb_q95) p_m6
      refine qb_inP (P := fun (z : Int32 × qa_S) => P z.2) (fun r8 er8 => ?_)
      exact p_m7
theorem mf_110_3 {P : qa_S → Prop} {N : Nat} {σ : qa_S} {a1 : Int32} {a2 : Int32} (hw : ∀ a j, qb_sc a j → ∀ s v, P s → P (qa_u s a j v)) (hm : ∀ s, P s → P (ma_72_3 N s)) (h : P σ) : P (ma_110_3 N a1 a2 σ).2 := by
  unfold ma_110_3
  show (fun (z : Int32 × qa_S) => P z.2) _
  refine qb_ifP (P := fun (z : Int32 × qa_S) => P z.2) ?_ ?_
  · refine qb_inP (P := fun (z : Int32 × qa_S) => P z.2) (fun r2 er2 => ?_)
    have p_r2 : P r2.2 := by rw [er2]; exact mf_9_3 hw hm h
    exact p_r2
  · refine qb_ifP (P := fun (z : Int32 × qa_S) => P z.2) ?_ ?_
    · refine qb_inP (P := fun (z : Int32 × qa_S) => P z.2) (fun r4 er4 => ?_)
      have p_r4 : P r4.2 := by rw [er4]; exact mf_9_3 hw hm h
      exact p_r4
    · refine qb_ifP (P := fun (z : Int32 × qa_S) => P z.2) ?_ ?_
      · refine qb_inP (P := fun (z : Int32 × qa_S) => P z.2) (fun m6 em6 => ?_)
        have p_m6 : P m6 := by rw [em6]; exact mf_46_3 hw hm h
        refine qb_inP (P := fun (z : Int32 × qa_S) => P z.2) (fun r7 er7 => ?_)
        refine qb_csP (P := fun (z : Int32 × qa_S) => P z.2) (fun b8 q => ?_) (fun b8 q => ?_)
        · exact p_m6
        · exact p_m6
      · refine qb_inP (P := fun (z : Int32 × qa_S) => P z.2) (fun r9 er9 => ?_)
        have p_r9 : P r9.2 := by rw [er9]; exact mf_9_3 hw hm h
        exact p_r9
theorem mf_118_3 {P : qa_S → Prop} {N : Nat} {σ : qa_S} {a1 : Int32} (hw : ∀ a j, qb_sc a j → ∀ s v, P s → P (qa_u s a j v)) (hm : ∀ s, P s → P (ma_72_3 N s)) (h : P σ) : P (ma_118_3 N a1 σ).2 := by
  unfold ma_118_3
  show (fun (z : Int32 × qa_S) => P z.2) _
  refine qb_ifP (P := fun (z : Int32 × qa_S) => P z.2) ?_ ?_
  · refine qb_inP (P := fun (z : Int32 × qa_S) => P z.2) (fun r2 er2 => ?_)
    have p_r2 : P r2.2 := by rw [er2]; exact mf_9_3 hw hm h
    exact p_r2
  · refine qb_inP (P := fun (z : Int32 × qa_S) => P z.2) (fun r3 er3 => ?_)
    exact h
theorem mf_119_3 {P : qa_S → Prop} {N : Nat} {σ : qa_S} {a1 : Int32} {a2 : Int32} (hw : ∀ a j, qb_sc a j → ∀ s v, P s → P (qa_u s a j v)) (hm : ∀ s, P s → P (ma_72_3 N s)) (h : P σ) : P (ma_119_3 N a1 a2 σ).2 := by
  unfold ma_119_3
  show (fun (z : Int32 × qa_S) => P z.2) _
  refine qb_ifP (P := fun (z : Int32 × qa_S) => P z.2) ?_ ?_
  · refine qb_inP (P := fun (z : Int32 × qa_S) => P z.2) (fun r2 er2 => ?_)
    have p_r2 : P r2.2 := by rw [er2]; exact mf_9_3 hw hm h
    exact p_r2
  · refine qb_ifP (P := fun (z : Int32 × qa_S) => P z.2) ?_ ?_
    · refine qb_inP (P := fun (z : Int32 × qa_S) => P z.2) (fun r4 er4 => ?_)
      have p_r4 : P r4.2 := by rw [er4]; exact mf_9_3 hw hm h
      exact p_r4
    · refine qb_ifP (P := fun (z : Int32 × qa_S) => P z.2) ?_ ?_
      · refine qb_inP (P := fun (z : Int32 × qa_S) => P z.2) (fun r6 er6 => ?_)
        have p_r6 : P r6.2 := by rw [er6]; exact mf_9_3 hw hm h
        exact p_r6
      · refine qb_inP (P := fun (z : Int32 × qa_S) => P z.2) (fun m7 em7 => ?_)
        have p_m7 : P m7 := by rw [em7]; exact mf_67_80 hw hm h
        refine qb_inP (P := fun (z : Int32 × qa_S) => P z.2) (fun m8 em8 => ?_)
        have p_m8 : P m8 := by rw [em8]; exact mf_69_80 hw hm p_m7
        refine qb_inP (P := fun (z : Int32 × qa_S) => P z.2) (fun m9 em9 => ?_)
        have p_m9 : P m9 := by rw [em9]; exact hm _ p_m8
        refine qb_inP (P := fun (z : Int32 × qa_S) => P z.2) (fun r10 er10 => ?_)
        exact p_m9
theorem mf_121_3 {P : qa_S → Prop} {N : Nat} {σ : qa_S} (hw : ∀ a j, qb_sc a j → ∀ s v, P s → P (qa_u s a j v)) (hm : ∀ s, P s → P (ma_72_3 N s)) (h : P σ) : P (ma_121_3 N σ).2 := by
  unfold ma_121_3
  show (fun (z : Int32 × qa_S) => P z.2) _
  refine qb_inP (P := fun (z : Int32 × qa_S) => P z.2) (fun m1 em1 => ?_)
  have p_m1 : P m1 := by rw [em1]; exact mf_46_3 hw hm h
  refine qb_inP (P := fun (z : Int32 × qa_S) => P z.2) (fun r2 er2 => ?_)
  exact p_m1
theorem mg_122_3_p41 {P : qa_S → Prop} {N n : Nat} {l1 : Int32} {l4 : Int32} {s : Int32 × Int32 × Int32 × qa_S} (hw : ∀ a j, qb_sc a j → ∀ s v, P s → P (qa_u s a j v)) (hm : ∀ s, P s → P (ma_72_3 N s)) (h : P (s.2.2.2)) : (fun (b : Int32 × Int32 × Int32 × qa_S) => P (b.2.2.2)) (qa_wh (fun s => s) (mc_122_3_p41 N l1 l4) n s) := by
  refine qb_whP (I := (fun (s : Int32 × Int32 × Int32 × qa_S) => P (s.2.2.2))) (Q := (fun (b : Int32 × Int32 × Int32 × qa_S) => P (b.2.2.2))) (fun s h => h) (fun s h => ?_) n s h
  unfold mc_122_3_p41
  show (fun (x : (Int32 × Int32 × Int32 × qa_S) ⊕ ((Int32 × Int32 × Int32 × qa_S))) => qa_cs x (fun (s : Int32 × Int32 × Int32 × qa_S) => P (s.2.2.2)) (fun (b : Int32 × Int32 × Int32 × qa_S) => P (b.2.2.2))) _
  refine qb_ifP (P := fun (x : (Int32 × Int32 × Int32 × qa_S) ⊕ ((Int32 × Int32 × Int32 × qa_S))) => qa_cs x (fun (s : Int32 × Int32 × Int32 × qa_S) => P (s.2.2.2)) (fun (b : Int32 × Int32 × Int32 × qa_S) => P (b.2.2.2))) ?_ ?_
  · refine qb_inP (P := fun (x : (Int32 × Int32 × Int32 × qa_S) ⊕ ((Int32 × Int32 × Int32 × qa_S))) => qa_cs x (fun (s : Int32 × Int32 × Int32 × qa_S) => P (s.2.2.2)) (fun (b : Int32 × Int32 × Int32 × qa_S) => P (b.2.2.2))) (fun r2 er2 => ?_)
    have p_r2 : P r2.2 := by rw [er2]; exact mf_87_3 hw hm h
    exact p_r2
  · exact h
theorem mg_122_3_p23 {P : qa_S → Prop} {N n : Nat} {l1 : Int32} {s : Int32 × Int32 × Int32 × qa_S} (hw : ∀ a j, qb_sc a j → ∀ s v, P s → P (qa_u s a j v)) (hm : ∀ s, P s → P (ma_72_3 N s)) (h : P (s.2.2.2)) : (fun (b : Int32 × Int32 × Int32 × qa_S) => P (b.2.2.2)) (qa_wh (fun s => s) (mc_122_3_p23 N l1) n s) := by
  refine qb_whP (I := (fun (s : Int32 × Int32 × Int32 × qa_S) => P (s.2.2.2))) (Q := (fun (b : Int32 × Int32 × Int32 × qa_S) => P (b.2.2.2))) (fun s h => h) (fun s h => ?_) n s h
  unfold mc_122_3_p23
  show (fun (x : (Int32 × Int32 × Int32 × qa_S) ⊕ ((Int32 × Int32 × Int32 × qa_S))) => qa_cs x (fun (s : Int32 × Int32 × Int32 × qa_S) => P (s.2.2.2)) (fun (b : Int32 × Int32 × Int32 × qa_S) => P (b.2.2.2))) _
  refine qb_ifP (P := fun (x : (Int32 × Int32 × Int32 × qa_S) ⊕ ((Int32 × Int32 × Int32 × qa_S))) => qa_cs x (fun (s : Int32 × Int32 × Int32 × qa_S) => P (s.2.2.2)) (fun (b : Int32 × Int32 × Int32 × qa_S) => P (b.2.2.2))) ?_ ?_
  · refine qb_inP (P := fun (x : (Int32 × Int32 × Int32 × qa_S) ⊕ ((Int32 × Int32 × Int32 × qa_S))) => qa_cs x (fun (s : Int32 × Int32 × Int32 × qa_S) => P (s.2.2.2)) (fun (b : Int32 × Int32 × Int32 × qa_S) => P (b.2.2.2))) (fun r2 er2 => ?_)
    have p_r2 := mg_122_3_p41 hw hm (N := N) (n := N) (l1 := l1) (l4 := s.1) (s := ((s.1 + (1 : Int32)), s.2.1, s.2.2.1, s.2.2.2)) h
    rw [← er2] at p_r2
    exact p_r2
  · exact h
theorem mf_122_3 {P : qa_S → Prop} {N : Nat} {σ : qa_S} {a1 : Int32} (hw : ∀ a j, qb_sc a j → ∀ s v, P s → P (qa_u s a j v)) (hm : ∀ s, P s → P (ma_72_3 N s)) (h : P σ) : P (ma_122_3 N a1 σ).2 := by
  unfold ma_122_3
  show (fun (z : Int32 × qa_S) => P z.2) _
  refine qb_ifP (P := fun (z : Int32 × qa_S) => P z.2) ?_ ?_
  · refine qb_inP (P := fun (z : Int32 × qa_S) => P z.2) (fun r2 er2 => ?_)
    have p_r2 : P r2.2 := by rw [er2]; exact mf_9_3 hw hm h
    exact p_r2
  · refine qb_inP (P := fun (z : Int32 × qa_S) => P z.2) (fun r3 er3 => ?_)
    have p_r3 := mg_122_3_p23 hw hm (N := N) (n := N) (l1 := a1) (s := ((0 : Int32), (-9 : Int32), (-9 : Int32), σ)) h
    rw [← er3] at p_r3
    exact p_r3
theorem mg_124_3_p19 {P : qa_S → Prop} {N n : Nat} {l1 : Int32} {s : Int32 × qa_S} (hw : ∀ a j, qb_sc a j → ∀ s v, P s → P (qa_u s a j v)) (hm : ∀ s, P s → P (ma_72_3 N s)) (h : P (s.2)) : (fun (x : ((Int32 × qa_S) ⊕ (Int32 × qa_S))) => qa_cs x (fun b => P b.2) (fun b => P (b.2))) (qa_wh (fun s => .inr s) (mc_124_3_p19 N l1) n s) := by
  refine qb_whP (e := fun s => Sum.inr s) (I := (fun (s : Int32 × qa_S) => P (s.2))) (Q := (fun (x : ((Int32 × qa_S) ⊕ (Int32 × qa_S))) => qa_cs x (fun b => P b.2) (fun b => P (b.2)))) (fun s h => h) (fun s h => ?_) n s h
  unfold mc_124_3_p19
  show (fun (x : (Int32 × qa_S) ⊕ (((Int32 × qa_S) ⊕ (Int32 × qa_S)))) => qa_cs x (fun (s : Int32 × qa_S) => P (s.2)) (fun (x : ((Int32 × qa_S) ⊕ (Int32 × qa_S))) => qa_cs x (fun b => P b.2) (fun b => P (b.2)))) _
  refine qb_ifP (P := fun (x : (Int32 × qa_S) ⊕ (((Int32 × qa_S) ⊕ (Int32 × qa_S)))) => qa_cs x (fun (s : Int32 × qa_S) => P (s.2)) (fun (x : ((Int32 × qa_S) ⊕ (Int32 × qa_S))) => qa_cs x (fun b => P b.2) (fun b => P (b.2)))) ?_ ?_
  · exact h
  · refine qb_inP (P := fun (x : (Int32 × qa_S) ⊕ (((Int32 × qa_S) ⊕ (Int32 × qa_S)))) => qa_cs x (fun (s : Int32 × qa_S) => P (s.2)) (fun (x : ((Int32 × qa_S) ⊕ (Int32 × qa_S))) => qa_cs x (fun b => P b.2) (fun b => P (b.2)))) (fun m2 em2 => ?_)
    have p_m2 : P m2 := by rw [em2]; exact mf_47_4 hw hm (qb_q95) h
    refine qb_inP (P := fun (x : (Int32 × qa_S) ⊕ (((Int32 × qa_S) ⊕ (Int32 × qa_S)))) => qa_cs x (fun (s : Int32 × qa_S) => P (s.2)) (fun (x : ((Int32 × qa_S) ⊕ (Int32 × qa_S))) => qa_cs x (fun b => P b.2) (fun b => P (b.2)))) (fun r3 er3 => ?_)
    refine qb_ifP (P := fun (x : (Int32 × qa_S) ⊕ (((Int32 × qa_S) ⊕ (Int32 × qa_S)))) => qa_cs x (fun (s : Int32 × qa_S) => P (s.2)) (fun (x : ((Int32 × qa_S) ⊕ (Int32 × qa_S))) => qa_cs x (fun b => P b.2) (fun b => P (b.2)))) ?_ ?_
    · exact p_m2
    · exact p_m2
theorem mf_124_3 {P : qa_S → Prop} {N : Nat} {σ : qa_S} {a1 : Int32} (hw : ∀ a j, qb_sc a j → ∀ s v, P s → P (qa_u s a j v)) (hm : ∀ s, P s → P (ma_72_3 N s)) (h : P σ) : P (ma_124_3 N a1 σ).2 := by
  unfold ma_124_3
  show (fun (z : Int32 × qa_S) => P z.2) _
  refine qb_ifP (P := fun (z : Int32 × qa_S) => P z.2) ?_ ?_
  · refine qb_inP (P := fun (z : Int32 × qa_S) => P z.2) (fun r2 er2 => ?_)
    have p_r2 : P r2.2 := by rw [er2]; exact mf_9_3 hw hm h
    exact p_r2
  · refine qb_inP (P := fun (z : Int32 × qa_S) => P z.2) (fun r3 er3 => ?_)
    have p_r3 := mg_124_3_p19 hw hm (N := N) (n := N) (l1 := a1) (s := ((0 : Int32), σ)) h
    rw [← er3] at p_r3
    refine qb_csP (P := fun (z : Int32 × qa_S) => P z.2) (fun b4 q => ?_) (fun b4 q => ?_)
    · rw [q] at p_r3
      exact p_r3
    · rw [q] at p_r3
      exact p_r3
theorem mg_68_98_p5 {P : qa_S → Prop} {N n : Nat} {l1 : Int32} {l3 : Int32} {s : Int32 × qa_S} (hw : ∀ a j, qb_sc a j → ∀ s v, P s → P (qa_u s a j v)) (hm : ∀ s, P s → P (ma_72_3 N s)) (h : P (s.2)) : (fun (b : Int32 × qa_S) => P (b.2)) (qa_wh (fun s => s) (mc_68_98_p5 N l1 l3) n s) := by
  refine qb_whP (I := (fun (s : Int32 × qa_S) => P (s.2))) (Q := (fun (b : Int32 × qa_S) => P (b.2))) (fun s h => h) (fun s h => ?_) n s h
  unfold mc_68_98_p5
  show (fun (x : (Int32 × qa_S) ⊕ ((Int32 × qa_S))) => qa_cs x (fun (s : Int32 × qa_S) => P (s.2)) (fun (b : Int32 × qa_S) => P (b.2))) _
  refine qb_ifP (P := fun (x : (Int32 × qa_S) ⊕ ((Int32 × qa_S))) => qa_cs x (fun (s : Int32 × qa_S) => P (s.2)) (fun (b : Int32 × qa_S) => P (b.2))) ?_ ?_
  · refine qb_inP (P := fun (x : (Int32 × qa_S) ⊕ ((Int32 × qa_S))) => qa_cs x (fun (s : Int32 × qa_S) => P (s.2)) (fun (b : Int32 × qa_S) => P (b.2))) (fun m2 em2 => ?_)
    have p_m2 : P m2 := by rw [em2]; exact hw _ _ (qb_q98 _) _ _ h
    exact p_m2
  · exact h
theorem mf_68_98 {P : qa_S → Prop} {N : Nat} {σ : qa_S} {a1 : Int32} (hw : ∀ a j, qb_sc a j → ∀ s v, P s → P (qa_u s a j v)) (hm : ∀ s, P s → P (ma_72_3 N s)) (h : P σ) : P (ma_68_98 N a1 σ) := by
  unfold ma_68_98
  show (fun (z : qa_S) => P z) _
  refine qb_inP (P := fun (z : qa_S) => P z) (fun r1 er1 => ?_)
  have p_r1 := mg_68_98_p5 hw hm (N := N) (n := N) (l1 := a1) (l3 := (4096 : Int32)) (s := ((0 : Int32), σ)) h
  rw [← er1] at p_r1
  exact p_r1
theorem mg_126_3_p5 {P : qa_S → Prop} {N n : Nat} {l1 : Int32} {l2 : Int32} {s : Int32 × Int32 × qa_S} (hw : ∀ a j, qb_sc a j → ∀ s v, P s → P (qa_u s a j v)) (hm : ∀ s, P s → P (ma_72_3 N s)) (h : P (s.2.2)) : (fun (b : Int32 × Int32 × qa_S) => P (b.2.2)) (qa_wh (fun s => s) (mc_126_3_p5 N l1 l2) n s) := by
  refine qb_whP (I := (fun (s : Int32 × Int32 × qa_S) => P (s.2.2))) (Q := (fun (b : Int32 × Int32 × qa_S) => P (b.2.2))) (fun s h => h) (fun s h => ?_) n s h
  unfold mc_126_3_p5
  show (fun (x : (Int32 × Int32 × qa_S) ⊕ ((Int32 × Int32 × qa_S))) => qa_cs x (fun (s : Int32 × Int32 × qa_S) => P (s.2.2)) (fun (b : Int32 × Int32 × qa_S) => P (b.2.2))) _
  refine qb_ifP (P := fun (x : (Int32 × Int32 × qa_S) ⊕ ((Int32 × Int32 × qa_S))) => qa_cs x (fun (s : Int32 × Int32 × qa_S) => P (s.2.2)) (fun (b : Int32 × Int32 × qa_S) => P (b.2.2))) ?_ ?_
  · refine qb_inP (P := fun (x : (Int32 × Int32 × qa_S) ⊕ ((Int32 × Int32 × qa_S))) => qa_cs x (fun (s : Int32 × Int32 × qa_S) => P (s.2.2)) (fun (b : Int32 × Int32 × qa_S) => P (b.2.2))) (fun m2 em2 => ?_)
    have p_m2 : P m2 := by rw [em2]; exact hm _ h
    exact p_m2
  · exact h
theorem mf_126_3 {P : qa_S → Prop} {N : Nat} {σ : qa_S} {a1 : Int32} {a2 : Int32} (hw : ∀ a j, qb_sc a j → ∀ s v, P s → P (qa_u s a j v)) (hm : ∀ s, P s → P (ma_72_3 N s)) (h : P σ) : P (ma_126_3 N a1 a2 σ).2 := by
  unfold ma_126_3
  show (fun (z : Int32 × qa_S) => P z.2) _
  refine qb_inP (P := fun (z : Int32 × qa_S) => P z.2) (fun r1 er1 => ?_)
  have p_r1 := mg_126_3_p5 hw hm (N := N) (n := N) (l1 := a1) (l2 := a2) (s := ((0 : Int32), (1 : Int32), σ)) h
  rw [← er1] at p_r1
  exact p_r1
theorem mg_127_3_p11 {P : qa_S → Prop} {N n : Nat} {l1 : Int32} {l2 : Int32} {s : Int32 × qa_S} (hw : ∀ a j, qb_sc a j → ∀ s v, P s → P (qa_u s a j v)) (hm : ∀ s, P s → P (ma_72_3 N s)) (h : P (s.2)) : (fun (x : ((Int32 × qa_S) ⊕ (Int32 × qa_S))) => qa_cs x (fun b => P b.2) (fun b => P (b.2))) (qa_wh (fun s => .inr s) (mc_127_3_p11 N l1 l2) n s) := by
  refine qb_whP (e := fun s => Sum.inr s) (I := (fun (s : Int32 × qa_S) => P (s.2))) (Q := (fun (x : ((Int32 × qa_S) ⊕ (Int32 × qa_S))) => qa_cs x (fun b => P b.2) (fun b => P (b.2)))) (fun s h => h) (fun s h => ?_) n s h
  unfold mc_127_3_p11
  show (fun (x : (Int32 × qa_S) ⊕ (((Int32 × qa_S) ⊕ (Int32 × qa_S)))) => qa_cs x (fun (s : Int32 × qa_S) => P (s.2)) (fun (x : ((Int32 × qa_S) ⊕ (Int32 × qa_S))) => qa_cs x (fun b => P b.2) (fun b => P (b.2)))) _
  refine qb_ifP (P := fun (x : (Int32 × qa_S) ⊕ (((Int32 × qa_S) ⊕ (Int32 × qa_S)))) => qa_cs x (fun (s : Int32 × qa_S) => P (s.2)) (fun (x : ((Int32 × qa_S) ⊕ (Int32 × qa_S))) => qa_cs x (fun b => P b.2) (fun b => P (b.2)))) ?_ ?_
  · refine qb_ifP (P := fun (x : (Int32 × qa_S) ⊕ (((Int32 × qa_S) ⊕ (Int32 × qa_S)))) => qa_cs x (fun (s : Int32 × qa_S) => P (s.2)) (fun (x : ((Int32 × qa_S) ⊕ (Int32 × qa_S))) => qa_cs x (fun b => P b.2) (fun b => P (b.2)))) ?_ ?_
    · exact h
    · refine qb_ifP (P := fun (x : (Int32 × qa_S) ⊕ (((Int32 × qa_S) ⊕ (Int32 × qa_S)))) => qa_cs x (fun (s : Int32 × qa_S) => P (s.2)) (fun (x : ((Int32 × qa_S) ⊕ (Int32 × qa_S))) => qa_cs x (fun b => P b.2) (fun b => P (b.2)))) ?_ ?_
      · refine qb_inP (P := fun (x : (Int32 × qa_S) ⊕ (((Int32 × qa_S) ⊕ (Int32 × qa_S)))) => qa_cs x (fun (s : Int32 × qa_S) => P (s.2)) (fun (x : ((Int32 × qa_S) ⊕ (Int32 × qa_S))) => qa_cs x (fun b => P b.2) (fun b => P (b.2)))) (fun m4 em4 => ?_)
        have p_m4 : P m4 := by rw [em4]; exact hw _ _ (qb_q98 _) _ _ h
        exact p_m4
      · exact h
  · exact h
theorem mf_127_3 {P : qa_S → Prop} {N : Nat} {σ : qa_S} {a1 : Int32} (hw : ∀ a j, qb_sc a j → ∀ s v, P s → P (qa_u s a j v)) (hm : ∀ s, P s → P (ma_72_3 N s)) (h : P σ) : P (ma_127_3 N a1 σ).2 := by
  unfold ma_127_3
  show (fun (z : Int32 × qa_S) => P z.2) _
  refine qb_inP (P := fun (z : Int32 × qa_S) => P z.2) (fun r1 er1 => ?_)
  have p_r1 := mg_127_3_p11 hw hm (N := N) (n := N) (l1 := a1) (l2 := (((a1 * (-1640531535 : Int32))).toUInt32 >>> (((20 : Int32)).toUInt32 &&& Int32.toUInt32 31)).toInt32) (s := ((0 : Int32), σ)) h
  rw [← er1] at p_r1
  refine qb_csP (P := fun (z : Int32 × qa_S) => P z.2) (fun b2 q => ?_) (fun b2 q => ?_)
  · rw [q] at p_r1
    exact p_r1
  · rw [q] at p_r1
    exact p_r1
theorem mg_125_3_p29 {P : qa_S → Prop} {N n : Nat} {l1 : Int32} {s : Int32 × Int32 × qa_S} (hw : ∀ a j, qb_sc a j → ∀ s v, P s → P (qa_u s a j v)) (hm : ∀ s, P s → P (ma_72_3 N s)) (h : P (s.2.2)) : (fun (b : Int32 × Int32 × qa_S) => P (b.2.2)) (qa_wh (fun s => s) (mc_125_3_p29 N l1) n s) := by
  refine qb_whP (I := (fun (s : Int32 × Int32 × qa_S) => P (s.2.2))) (Q := (fun (b : Int32 × Int32 × qa_S) => P (b.2.2))) (fun s h => h) (fun s h => ?_) n s h
  unfold mc_125_3_p29
  show (fun (x : (Int32 × Int32 × qa_S) ⊕ ((Int32 × Int32 × qa_S))) => qa_cs x (fun (s : Int32 × Int32 × qa_S) => P (s.2.2)) (fun (b : Int32 × Int32 × qa_S) => P (b.2.2))) _
  refine qb_inP (P := fun (x : (Int32 × Int32 × qa_S) ⊕ ((Int32 × Int32 × qa_S))) => qa_cs x (fun (s : Int32 × Int32 × qa_S) => P (s.2.2)) (fun (b : Int32 × Int32 × qa_S) => P (b.2.2))) (fun m1 em1 => ?_)
  have p_m1 : P m1 := by rw [em1]; exact hm _ h
  refine qb_ifP (P := fun (x : (Int32 × Int32 × qa_S) ⊕ ((Int32 × Int32 × qa_S))) => qa_cs x (fun (s : Int32 × Int32 × qa_S) => P (s.2.2)) (fun (b : Int32 × Int32 × qa_S) => P (b.2.2))) ?_ ?_
  · refine qb_inP (P := fun (x : (Int32 × Int32 × qa_S) ⊕ ((Int32 × Int32 × qa_S))) => qa_cs x (fun (s : Int32 × Int32 × qa_S) => P (s.2.2)) (fun (b : Int32 × Int32 × qa_S) => P (b.2.2))) (fun r3 er3 => ?_)
    have p_r3 : P r3.2 := by rw [er3]; exact mf_126_3 hw hm p_m1
    refine qb_inP (P := fun (x : (Int32 × Int32 × qa_S) ⊕ ((Int32 × Int32 × qa_S))) => qa_cs x (fun (s : Int32 × Int32 × qa_S) => P (s.2.2)) (fun (b : Int32 × Int32 × qa_S) => P (b.2.2))) (fun r4 er4 => ?_)
    have p_r4 : P r4.2 := by rw [er4]; exact mf_127_3 hw hm p_r3
    exact p_r4
  · exact p_m1
theorem mf_125_3 {P : qa_S → Prop} {N : Nat} {σ : qa_S} {a1 : Int32} (hw : ∀ a j, qb_sc a j → ∀ s v, P s → P (qa_u s a j v)) (hm : ∀ s, P s → P (ma_72_3 N s)) (h : P σ) : P (ma_125_3 N a1 σ).2 := by
  unfold ma_125_3
  show (fun (z : Int32 × qa_S) => P z.2) _
  refine qb_ifP (P := fun (z : Int32 × qa_S) => P z.2) ?_ ?_
  · refine qb_inP (P := fun (z : Int32 × qa_S) => P z.2) (fun r2 er2 => ?_)
    have p_r2 : P r2.2 := by rw [er2]; exact mf_9_3 hw hm h
    exact p_r2
  · refine qb_inP (P := fun (z : Int32 × qa_S) => P z.2) (fun m3 em3 => ?_)
    have p_m3 : P m3 := by rw [em3]; exact mf_68_98 hw hm h
    refine qb_inP (P := fun (z : Int32 × qa_S) => P z.2) (fun r4 er4 => ?_)
    have p_r4 := mg_125_3_p29 hw hm (N := N) (n := N) (l1 := a1) (s := ((1 : Int32), (0 : Int32), m3)) p_m3
    rw [← er4] at p_r4
    exact p_r4
theorem mf_129_3 {P : qa_S → Prop} {N : Nat} {σ : qa_S} {a1 : Int32} (hw : ∀ a j, qb_sc a j → ∀ s v, P s → P (qa_u s a j v)) (hm : ∀ s, P s → P (ma_72_3 N s)) (h : P σ) : P (ma_129_3 N a1 σ).2 := by
  unfold ma_129_3
  show (fun (z : Int32 × qa_S) => P z.2) _
  refine qb_ifP (P := fun (z : Int32 × qa_S) => P z.2) ?_ ?_
  · refine qb_inP (P := fun (z : Int32 × qa_S) => P z.2) (fun r2 er2 => ?_)
    have p_r2 : P r2.2 := by rw [er2]; exact mf_9_3 hw hm h
    exact p_r2
  · refine qb_inP (P := fun (z : Int32 × qa_S) => P z.2) (fun r3 er3 => ?_)
    exact h
theorem mf_130_3 {P : qa_S → Prop} {N : Nat} {σ : qa_S} {a1 : Int32} {a2 : Int32} {a3 : Int32} (hw : ∀ a j, qb_sc a j → ∀ s v, P s → P (qa_u s a j v)) (hm : ∀ s, P s → P (ma_72_3 N s)) (h : P σ) : P (ma_130_3 N a1 a2 a3 σ).2 := by
  unfold ma_130_3
  show (fun (z : Int32 × qa_S) => P z.2) _
  refine qb_ifP (P := fun (z : Int32 × qa_S) => P z.2) ?_ ?_
  · refine qb_inP (P := fun (z : Int32 × qa_S) => P z.2) (fun r2 er2 => ?_)
    have p_r2 : P r2.2 := by rw [er2]; exact mf_9_3 hw hm h
    exact p_r2
  · refine qb_ifP (P := fun (z : Int32 × qa_S) => P z.2) ?_ ?_
    · refine qb_inP (P := fun (z : Int32 × qa_S) => P z.2) (fun r4 er4 => ?_)
      have p_r4 : P r4.2 := by rw [er4]; exact mf_9_3 hw hm h
      exact p_r4
    · refine qb_inP (P := fun (z : Int32 × qa_S) => P z.2) (fun r5 er5 => ?_)
      refine qb_csP (P := fun (z : Int32 × qa_S) => P z.2) (fun b6 q => ?_) (fun b6 q => ?_)
      · exact h
      · exact h
theorem mg_131_3_p44 {P : qa_S → Prop} {N n : Nat} {l1 : Int32} {s : Int32 × Int32 × qa_S} (hw : ∀ a j, qb_sc a j → ∀ s v, P s → P (qa_u s a j v)) (hm : ∀ s, P s → P (ma_72_3 N s)) (h : P (s.2.2)) : (fun (b : Int32 × Int32 × qa_S) => P (b.2.2)) (qa_wh (fun s => s) (mc_131_3_p44 N l1) n s) := by
  refine qb_whP (I := (fun (s : Int32 × Int32 × qa_S) => P (s.2.2))) (Q := (fun (b : Int32 × Int32 × qa_S) => P (b.2.2))) (fun s h => h) (fun s h => ?_) n s h
  unfold mc_131_3_p44
  show (fun (x : (Int32 × Int32 × qa_S) ⊕ ((Int32 × Int32 × qa_S))) => qa_cs x (fun (s : Int32 × Int32 × qa_S) => P (s.2.2)) (fun (b : Int32 × Int32 × qa_S) => P (b.2.2))) _
  refine qb_inP (P := fun (x : (Int32 × Int32 × qa_S) ⊕ ((Int32 × Int32 × qa_S))) => qa_cs x (fun (s : Int32 × Int32 × qa_S) => P (s.2.2)) (fun (b : Int32 × Int32 × qa_S) => P (b.2.2))) (fun m1 em1 => ?_)
  have p_m1 : P m1 := by rw [em1]; exact hm _ h
  refine qb_ifP (P := fun (x : (Int32 × Int32 × qa_S) ⊕ ((Int32 × Int32 × qa_S))) => qa_cs x (fun (s : Int32 × Int32 × qa_S) => P (s.2.2)) (fun (b : Int32 × Int32 × qa_S) => P (b.2.2))) ?_ ?_
  · refine qb_inP (P := fun (x : (Int32 × Int32 × qa_S) ⊕ ((Int32 × Int32 × qa_S))) => qa_cs x (fun (s : Int32 × Int32 × qa_S) => P (s.2.2)) (fun (b : Int32 × Int32 × qa_S) => P (b.2.2))) (fun m3 em3 => ?_)
    have p_m3 : P m3 := by rw [em3]; exact hm _ p_m1
    refine qb_inP (P := fun (x : (Int32 × Int32 × qa_S) ⊕ ((Int32 × Int32 × qa_S))) => qa_cs x (fun (s : Int32 × Int32 × qa_S) => P (s.2.2)) (fun (b : Int32 × Int32 × qa_S) => P (b.2.2))) (fun r4 er4 => ?_)
    refine qb_inP (P := fun (x : (Int32 × Int32 × qa_S) ⊕ ((Int32 × Int32 × qa_S))) => qa_cs x (fun (s : Int32 × Int32 × qa_S) => P (s.2.2)) (fun (b : Int32 × Int32 × qa_S) => P (b.2.2))) (fun m5 em5 => ?_)
    have p_m5 : P m5 := by rw [em5]; exact hm _ p_m3
    refine qb_inP (P := fun (x : (Int32 × Int32 × qa_S) ⊕ ((Int32 × Int32 × qa_S))) => qa_cs x (fun (s : Int32 × Int32 × qa_S) => P (s.2.2)) (fun (b : Int32 × Int32 × qa_S) => P (b.2.2))) (fun r6 er6 => ?_)
    exact p_m5
  · exact p_m1
theorem mf_131_3 {P : qa_S → Prop} {N : Nat} {σ : qa_S} {a1 : Int32} (hw : ∀ a j, qb_sc a j → ∀ s v, P s → P (qa_u s a j v)) (hm : ∀ s, P s → P (ma_72_3 N s)) (h : P σ) : P (ma_131_3 N a1 σ).2 := by
  unfold ma_131_3
  show (fun (z : Int32 × qa_S) => P z.2) _
  refine qb_ifP (P := fun (z : Int32 × qa_S) => P z.2) ?_ ?_
  · refine qb_inP (P := fun (z : Int32 × qa_S) => P z.2) (fun r2 er2 => ?_)
    have p_r2 : P r2.2 := by rw [er2]; exact mf_9_3 hw hm h
    exact p_r2
  · refine qb_ifP (P := fun (z : Int32 × qa_S) => P z.2) ?_ ?_
    · refine qb_ifP (P := fun (z : Int32 × qa_S) => P z.2) ?_ ?_
      · exact h
      · refine qb_inP (P := fun (z : Int32 × qa_S) => P z.2) (fun r5 er5 => ?_)
        have p_r5 := mg_131_3_p44 hw hm (N := N) (n := N) (l1 := a1) (s := ((2 : Int32), (1 : Int32), σ)) h
        rw [← er5] at p_r5
        refine qb_inP (P := fun (z : Int32 × qa_S) => P z.2) (fun m7 em7 => ?_)
        have p_m7 : P m7 := by rw [em7]; exact hm _ p_r5
        refine qb_inP (P := fun (z : Int32 × qa_S) => P z.2) (fun r8 er8 => ?_)
        refine qb_inP (P := fun (z : Int32 × qa_S) => P z.2) (fun r9 er9 => ?_)
        have p_r9 : P r9.2 := by rw [er9]; exact mf_78_3 hw hm p_r5
        refine qb_inP (P := fun (z : Int32 × qa_S) => P z.2) (fun m10 em10 => ?_)
        have p_m10 : P m10 := by rw [em10]; exact qb_ifP p_m7 p_r9
        exact p_m10
    · refine qb_inP (P := fun (z : Int32 × qa_S) => P z.2) (fun r11 er11 => ?_)
      have p_r11 : P r11.2 := by rw [er11]; exact mf_9_3 hw hm h
      exact p_r11
theorem mf_133_3 {P : qa_S → Prop} {N : Nat} {σ : qa_S} {a1 : Int32} (hw : ∀ a j, qb_sc a j → ∀ s v, P s → P (qa_u s a j v)) (hm : ∀ s, P s → P (ma_72_3 N s)) (h : P σ) : P (ma_133_3 N a1 σ).2 := by
  unfold ma_133_3
  show (fun (z : Int32 × qa_S) => P z.2) _
  refine qb_ifP (P := fun (z : Int32 × qa_S) => P z.2) ?_ ?_
  · refine qb_inP (P := fun (z : Int32 × qa_S) => P z.2) (fun r2 er2 => ?_)
    have p_r2 : P r2.2 := by rw [er2]; exact mf_9_3 hw hm h
    exact p_r2
  · refine qb_inP (P := fun (z : Int32 × qa_S) => P z.2) (fun r3 er3 => ?_)
    refine qb_csP (P := fun (z : Int32 × qa_S) => P z.2) (fun b4 q => ?_) (fun b4 q => ?_)
    · exact h
    · exact h
theorem mg_135_3_p13 {P : qa_S → Prop} {N n : Nat} {s : Int32 × qa_S} (hw : ∀ a j, qb_sc a j → ∀ s v, P s → P (qa_u s a j v)) (hm : ∀ s, P s → P (ma_72_3 N s)) (h : P (s.2)) : (fun (b : Int32 × qa_S) => P (b.2)) (qa_wh (fun s => s) (mc_135_3_p13 N) n s) := by
  refine qb_whP (I := (fun (s : Int32 × qa_S) => P (s.2))) (Q := (fun (b : Int32 × qa_S) => P (b.2))) (fun s h => h) (fun s h => ?_) n s h
  unfold mc_135_3_p13
  show (fun (x : (Int32 × qa_S) ⊕ ((Int32 × qa_S))) => qa_cs x (fun (s : Int32 × qa_S) => P (s.2)) (fun (b : Int32 × qa_S) => P (b.2))) _
  refine qb_ifP (P := fun (x : (Int32 × qa_S) ⊕ ((Int32 × qa_S))) => qa_cs x (fun (s : Int32 × qa_S) => P (s.2)) (fun (b : Int32 × qa_S) => P (b.2))) ?_ ?_
  · refine qb_inP (P := fun (x : (Int32 × qa_S) ⊕ ((Int32 × qa_S))) => qa_cs x (fun (s : Int32 × qa_S) => P (s.2)) (fun (b : Int32 × qa_S) => P (b.2))) (fun m2 em2 => ?_)
    have p_m2 : P m2 := by rw [em2]; exact mf_69_80 hw hm h
    exact p_m2
  · exact h
theorem mf_135_3 {P : qa_S → Prop} {N : Nat} {σ : qa_S} (hw : ∀ a j, qb_sc a j → ∀ s v, P s → P (qa_u s a j v)) (hm : ∀ s, P s → P (ma_72_3 N s)) (h : P σ) : P (ma_135_3 N σ).2 := by
  unfold ma_135_3
  show (fun (z : Int32 × qa_S) => P z.2) _
  refine qb_inP (P := fun (z : Int32 × qa_S) => P z.2) (fun m1 em1 => ?_)
  have p_m1 : P m1 := by rw [em1]; exact mf_46_3 hw hm h
  refine qb_inP (P := fun (z : Int32 × qa_S) => P z.2) (fun m2 em2 => ?_)
  have p_m2 : P m2 := by rw [em2]; exact mf_67_80 hw hm p_m1
  refine qb_inP (P := fun (z : Int32 × qa_S) => P z.2) (fun r3 er3 => ?_)
  have p_r3 := mg_135_3_p13 hw hm (N := N) (n := N)  (s := ((0 : Int32), m2)) p_m2
  rw [← er3] at p_r3
  refine qb_inP (P := fun (z : Int32 × qa_S) => P z.2) (fun m4 em4 => ?_)
  have p_m4 : P m4 := by rw [em4]; exact hm _ p_r3
  refine qb_inP (P := fun (z : Int32 × qa_S) => P z.2) (fun r5 er5 => ?_)
  exact p_m4
theorem mf_136_3 {P : qa_S → Prop} {N : Nat} {σ : qa_S} {a1 : Int32} {a2 : Int32} (hw : ∀ a j, qb_sc a j → ∀ s v, P s → P (qa_u s a j v)) (hm : ∀ s, P s → P (ma_72_3 N s)) (h : P σ) : P (ma_136_3 N a1 a2 σ).2 := by
  unfold ma_136_3
  show (fun (z : Int32 × qa_S) => P z.2) _
  refine qb_ifP (P := fun (z : Int32 × qa_S) => P z.2) ?_ ?_
  · refine qb_inP (P := fun (z : Int32 × qa_S) => P z.2) (fun r2 er2 => ?_)
    have p_r2 : P r2.2 := by rw [er2]; exact mf_9_3 hw hm h
    exact p_r2
  · refine qb_ifP (P := fun (z : Int32 × qa_S) => P z.2) ?_ ?_
    · refine qb_inP (P := fun (z : Int32 × qa_S) => P z.2) (fun r4 er4 => ?_)
      have p_r4 : P r4.2 := by rw [er4]; exact mf_9_3 hw hm h
      exact p_r4
    · refine qb_inP (P := fun (z : Int32 × qa_S) => P z.2) (fun m5 em5 => ?_)
      have p_m5 : P m5 := by rw [em5]; exact mf_58_3 hw hm h
      refine qb_inP (P := fun (z : Int32 × qa_S) => P z.2) (fun r6 er6 => ?_)
      refine qb_inP (P := fun (z : Int32 × qa_S) => P z.2) (fun r7 er7 => ?_)
      exact p_m5
theorem mf_137_3 {P : qa_S → Prop} {N : Nat} {σ : qa_S} {a1 : Int32} (hw : ∀ a j, qb_sc a j → ∀ s v, P s → P (qa_u s a j v)) (hm : ∀ s, P s → P (ma_72_3 N s)) (h : P σ) : P (ma_137_3 N a1 σ).2 := by
  unfold ma_137_3
  show (fun (z : Int32 × qa_S) => P z.2) _
  refine qb_ifP (P := fun (z : Int32 × qa_S) => P z.2) ?_ ?_
  · refine qb_inP (P := fun (z : Int32 × qa_S) => P z.2) (fun r2 er2 => ?_)
    have p_r2 : P r2.2 := by rw [er2]; exact mf_9_3 hw hm h
    exact p_r2
  · refine qb_inP (P := fun (z : Int32 × qa_S) => P z.2) (fun r3 er3 => ?_)
    exact h
theorem mf_139_3 {P : qa_S → Prop} {N : Nat} {σ : qa_S} {a1 : Int32} (hw : ∀ a j, qb_sc a j → ∀ s v, P s → P (qa_u s a j v)) (hm : ∀ s, P s → P (ma_72_3 N s)) (h : P σ) : P (ma_139_3 N a1 σ).2 := by
  unfold ma_139_3
  show (fun (z : Int32 × qa_S) => P z.2) _
  refine qb_ifP (P := fun (z : Int32 × qa_S) => P z.2) ?_ ?_
  · refine qb_inP (P := fun (z : Int32 × qa_S) => P z.2) (fun r2 er2 => ?_)
    have p_r2 : P r2.2 := by rw [er2]; exact mf_9_3 hw hm h
    exact p_r2
  · refine qb_inP (P := fun (z : Int32 × qa_S) => P z.2) (fun r3 er3 => ?_)
    exact h
theorem mg_141_3_p18 {P : qa_S → Prop} {N n : Nat} {l1 : Int32} {s : Int32 × Int32 × qa_S} (hw : ∀ a j, qb_sc a j → ∀ s v, P s → P (qa_u s a j v)) (hm : ∀ s, P s → P (ma_72_3 N s)) (h : P (s.2.2)) : (fun (b : Int32 × Int32 × qa_S) => P (b.2.2)) (qa_wh (fun s => s) (mc_141_3_p18 N l1) n s) := by
  refine qb_whP (I := (fun (s : Int32 × Int32 × qa_S) => P (s.2.2))) (Q := (fun (b : Int32 × Int32 × qa_S) => P (b.2.2))) (fun s h => h) (fun s h => ?_) n s h
  unfold mc_141_3_p18
  show (fun (x : (Int32 × Int32 × qa_S) ⊕ ((Int32 × Int32 × qa_S))) => qa_cs x (fun (s : Int32 × Int32 × qa_S) => P (s.2.2)) (fun (b : Int32 × Int32 × qa_S) => P (b.2.2))) _
  refine qb_ifP (P := fun (x : (Int32 × Int32 × qa_S) ⊕ ((Int32 × Int32 × qa_S))) => qa_cs x (fun (s : Int32 × Int32 × qa_S) => P (s.2.2)) (fun (b : Int32 × Int32 × qa_S) => P (b.2.2))) ?_ ?_
  · refine qb_ifP (P := fun (x : (Int32 × Int32 × qa_S) ⊕ ((Int32 × Int32 × qa_S))) => qa_cs x (fun (s : Int32 × Int32 × qa_S) => P (s.2.2)) (fun (b : Int32 × Int32 × qa_S) => P (b.2.2))) ?_ ?_
    · refine qb_inP (P := fun (x : (Int32 × Int32 × qa_S) ⊕ ((Int32 × Int32 × qa_S))) => qa_cs x (fun (s : Int32 × Int32 × qa_S) => P (s.2.2)) (fun (b : Int32 × Int32 × qa_S) => P (b.2.2))) (fun r4 er4 => ?_)
      have p_r4 : P r4.2 := by rw [er4]; exact mf_45_3 hw hm h
      refine qb_inP (P := fun (x : (Int32 × Int32 × qa_S) ⊕ ((Int32 × Int32 × qa_S))) => qa_cs x (fun (s : Int32 × Int32 × qa_S) => P (s.2.2)) (fun (b : Int32 × Int32 × qa_S) => P (b.2.2))) (fun m6 em6 => ?_)
      have p_m6 : P m6 := by rw [em6]; exact qb_ifP h p_r4
      exact p_m6
    · exact h
  · exact h
theorem mg_144_3_p20 {P : qa_S → Prop} {N n : Nat} {l1 : Int32} {s : Int32 × qa_S} (hw : ∀ a j, qb_sc a j → ∀ s v, P s → P (qa_u s a j v)) (hm : ∀ s, P s → P (ma_72_3 N s)) (h : P (s.2)) : (fun (b : Int32 × qa_S) => P (b.2)) (qa_wh (fun s => s) (mc_144_3_p20 N l1) n s) := by
  refine qb_whP (I := (fun (s : Int32 × qa_S) => P (s.2))) (Q := (fun (b : Int32 × qa_S) => P (b.2))) (fun s h => h) (fun s h => ?_) n s h
  unfold mc_144_3_p20
  show (fun (x : (Int32 × qa_S) ⊕ ((Int32 × qa_S))) => qa_cs x (fun (s : Int32 × qa_S) => P (s.2)) (fun (b : Int32 × qa_S) => P (b.2))) _
  refine qb_ifP (P := fun (x : (Int32 × qa_S) ⊕ ((Int32 × qa_S))) => qa_cs x (fun (s : Int32 × qa_S) => P (s.2)) (fun (b : Int32 × qa_S) => P (b.2))) ?_ ?_
  · refine qb_inP (P := fun (x : (Int32 × qa_S) ⊕ ((Int32 × qa_S))) => qa_cs x (fun (s : Int32 × qa_S) => P (s.2)) (fun (b : Int32 × qa_S) => P (b.2))) (fun m2 em2 => ?_)
    have p_m2 : P m2 := by rw [em2]; exact hm _ h
    refine qb_inP (P := fun (x : (Int32 × qa_S) ⊕ ((Int32 × qa_S))) => qa_cs x (fun (s : Int32 × qa_S) => P (s.2)) (fun (b : Int32 × qa_S) => P (b.2))) (fun m3 em3 => ?_)
    have p_m3 : P m3 := by rw [em3]; exact hw _ _ (qb_q95 _) _ _ p_m2
    exact p_m3
  · exact h
theorem mf_144_3 {P : qa_S → Prop} {N : Nat} {σ : qa_S} {a1 : Int32} (hw : ∀ a j, qb_sc a j → ∀ s v, P s → P (qa_u s a j v)) (hm : ∀ s, P s → P (ma_72_3 N s)) (h : P σ) : P (ma_144_3 N a1 σ).2 := by
  unfold ma_144_3
  show (fun (z : Int32 × qa_S) => P z.2) _
  refine qb_ifP (P := fun (z : Int32 × qa_S) => P z.2) ?_ ?_
  · exact h
  · refine qb_inP (P := fun (z : Int32 × qa_S) => P z.2) (fun m2 em2 => ?_)
    have p_m2 : P m2 := by rw [em2]; exact hm _ h
    refine qb_ifP (P := fun (z : Int32 × qa_S) => P z.2) ?_ ?_
    · refine qb_inP (P := fun (z : Int32 × qa_S) => P z.2) (fun r4 er4 => ?_)
      have p_r4 := mg_144_3_p20 hw hm (N := N) (n := N) (l1 := a1) (s := ((0 : Int32), m2)) p_m2
      rw [← er4] at p_r4
      refine qb_inP (P := fun (z : Int32 × qa_S) => P z.2) (fun m5 em5 => ?_)
      have p_m5 : P m5 := by rw [em5]; exact mf_66_3 hw hm p_r4
      refine qb_inP (P := fun (z : Int32 × qa_S) => P z.2) (fun m6 em6 => ?_)
      have p_m6 : P m6 := by rw [em6]; exact hm _ p_m5
      refine qb_inP (P := fun (z : Int32 × qa_S) => P z.2) (fun r7 er7 => ?_)
      exact p_m6
    · exact p_m2
theorem mg_143_3_p51 {P : qa_S → Prop} {N n : Nat} {l1 : Int32} {l3 : Int32} {s : Int32 × Int32 × Int32 × Int32 × qa_S} (hw : ∀ a j, qb_sc a j → ∀ s v, P s → P (qa_u s a j v)) (hm : ∀ s, P s → P (ma_72_3 N s)) (h : P (s.2.2.2.2)) : (fun (b : Int32 × Int32 × Int32 × Int32 × qa_S) => P (b.2.2.2.2)) (qa_wh (fun s => s) (mc_143_3_p51 N l1 l3) n s) := by
  refine qb_whP (I := (fun (s : Int32 × Int32 × Int32 × Int32 × qa_S) => P (s.2.2.2.2))) (Q := (fun (b : Int32 × Int32 × Int32 × Int32 × qa_S) => P (b.2.2.2.2))) (fun s h => h) (fun s h => ?_) n s h
  unfold mc_143_3_p51
  show (fun (x : (Int32 × Int32 × Int32 × Int32 × qa_S) ⊕ ((Int32 × Int32 × Int32 × Int32 × qa_S))) => qa_cs x (fun (s : Int32 × Int32 × Int32 × Int32 × qa_S) => P (s.2.2.2.2)) (fun (b : Int32 × Int32 × Int32 × Int32 × qa_S) => P (b.2.2.2.2))) _
  refine qb_ifP (P := fun (x : (Int32 × Int32 × Int32 × Int32 × qa_S) ⊕ ((Int32 × Int32 × Int32 × Int32 × qa_S))) => qa_cs x (fun (s : Int32 × Int32 × Int32 × Int32 × qa_S) => P (s.2.2.2.2)) (fun (b : Int32 × Int32 × Int32 × Int32 × qa_S) => P (b.2.2.2.2))) ?_ ?_
  · refine qb_inP (P := fun (x : (Int32 × Int32 × Int32 × Int32 × qa_S) ⊕ ((Int32 × Int32 × Int32 × Int32 × qa_S))) => qa_cs x (fun (s : Int32 × Int32 × Int32 × Int32 × qa_S) => P (s.2.2.2.2)) (fun (b : Int32 × Int32 × Int32 × Int32 × qa_S) => P (b.2.2.2.2))) (fun r2 er2 => ?_)
    refine qb_inP (P := fun (x : (Int32 × Int32 × Int32 × Int32 × qa_S) ⊕ ((Int32 × Int32 × Int32 × Int32 × qa_S))) => qa_cs x (fun (s : Int32 × Int32 × Int32 × Int32 × qa_S) => P (s.2.2.2.2)) (fun (b : Int32 × Int32 × Int32 × Int32 × qa_S) => P (b.2.2.2.2))) (fun r3 er3 => ?_)
    have p_r3 : P r3.2 := by rw [er3]; exact mf_144_3 hw hm h
    exact p_r3
  · exact h
theorem mf_143_3 {P : qa_S → Prop} {N : Nat} {σ : qa_S} {a1 : Int32} {a2 : Int32} {a3 : Int32} (hw : ∀ a j, qb_sc a j → ∀ s v, P s → P (qa_u s a j v)) (hm : ∀ s, P s → P (ma_72_3 N s)) (h : P σ) : P (ma_143_3 N a1 a2 a3 σ).2 := by
  unfold ma_143_3
  show (fun (z : Int32 × qa_S) => P z.2) _
  refine qb_ifP (P := fun (z : Int32 × qa_S) => P z.2) ?_ ?_
  · refine qb_inP (P := fun (z : Int32 × qa_S) => P z.2) (fun r2 er2 => ?_)
    have p_r2 : P r2.2 := by rw [er2]; exact mf_9_3 hw hm h
    exact p_r2
  · refine qb_ifP (P := fun (z : Int32 × qa_S) => P z.2) ?_ ?_
    · refine qb_inP (P := fun (z : Int32 × qa_S) => P z.2) (fun r4 er4 => ?_)
      have p_r4 : P r4.2 := by rw [er4]; exact mf_9_3 hw hm h
      exact p_r4
    · refine qb_ifP (P := fun (z : Int32 × qa_S) => P z.2) ?_ ?_
      · refine qb_inP (P := fun (z : Int32 × qa_S) => P z.2) (fun r6 er6 => ?_)
        have p_r6 : P r6.2 := by rw [er6]; exact mf_9_3 hw hm h
        exact p_r6
      · refine qb_inP (P := fun (z : Int32 × qa_S) => P z.2) (fun r7 er7 => ?_)
        have p_r7 := mg_143_3_p51 hw hm (N := N) (n := N) (l1 := a1) (l3 := a3) (s := ((0 : Int32), a2, (0 : Int32), (0 : Int32), σ)) h
        rw [← er7] at p_r7
        exact p_r7
theorem mf_152_99 {P : qa_S → Prop} {N : Nat} {σ : qa_S} {a1 : Int32} (hw : ∀ a j, qb_sc a j → ∀ s v, P s → P (qa_u s a j v)) (hm : ∀ s, P s → P (ma_72_3 N s)) (h : P σ) : P (ma_152_99 a1 σ).2 := by
  unfold ma_152_99
  show (fun (z : Int32 × qa_S) => P z.2) _
  refine qb_inP (P := fun (z : Int32 × qa_S) => P z.2) (fun m1 em1 => ?_)
  have p_m1 : P m1 := by rw [em1]; exact hw _ _ (qb_q107 _) _ _ h
  exact p_m1
theorem mf_169_99 {P : qa_S → Prop} {N : Nat} {σ : qa_S} {a1 : Int32} {a2 : Int32} (hw : ∀ a j, qb_sc a j → ∀ s v, P s → P (qa_u s a j v)) (hm : ∀ s, P s → P (ma_72_3 N s)) (h : P σ) : P (ma_169_99 a1 a2 σ).2 := by
  unfold ma_169_99
  show (fun (z : Int32 × qa_S) => P z.2) _
  refine qb_inP (P := fun (z : Int32 × qa_S) => P z.2) (fun m1 em1 => ?_)
  have p_m1 : P m1 := by rw [em1]; exact hw _ _ qb_q99 _ _ h
  refine qb_ifP (P := fun (z : Int32 × qa_S) => P z.2) ?_ ?_
  · refine qb_inP (P := fun (z : Int32 × qa_S) => P z.2) (fun r4 er4 => ?_)
    have p_r4 : P r4.2 := by rw [er4]; exact mf_152_99 hw hm p_m1
    exact p_r4
  · refine qb_ifP (P := fun (z : Int32 × qa_S) => P z.2) ?_ ?_
    · refine qb_inP (P := fun (z : Int32 × qa_S) => P z.2) (fun r7 er7 => ?_)
      have p_r7 : P r7.2 := by rw [er7]; exact mf_152_99 hw hm p_m1
      exact p_r7
    · exact p_m1
theorem mf_170_99 {P : qa_S → Prop} {N : Nat} {σ : qa_S} {a1 : Int32} {a2 : Int32} (hw : ∀ a j, qb_sc a j → ∀ s v, P s → P (qa_u s a j v)) (hm : ∀ s, P s → P (ma_72_3 N s)) (h : P σ) : P (ma_170_99 a1 a2 σ).2 := by
  unfold ma_170_99
  show (fun (z : Int32 × qa_S) => P z.2) _
  refine qb_inP (P := fun (z : Int32 × qa_S) => P z.2) (fun m1 em1 => ?_)
  have p_m1 : P m1 := by rw [em1]; exact hw _ _ qb_q99 _ _ h
  refine qb_ifP (P := fun (z : Int32 × qa_S) => P z.2) ?_ ?_
  · refine qb_inP (P := fun (z : Int32 × qa_S) => P z.2) (fun r4 er4 => ?_)
    have p_r4 : P r4.2 := by rw [er4]; exact mf_152_99 hw hm p_m1
    exact p_r4
  · refine qb_ifP (P := fun (z : Int32 × qa_S) => P z.2) ?_ ?_
    · refine qb_inP (P := fun (z : Int32 × qa_S) => P z.2) (fun r7 er7 => ?_)
      have p_r7 : P r7.2 := by rw [er7]; exact mf_152_99 hw hm p_m1
      exact p_r7
    · exact p_m1
theorem mg_181_99_p12 {P : qa_S → Prop} {N n : Nat} {l1 : Int32} {s : Int32 × qa_S} (hw : ∀ a j, qb_sc a j → ∀ s v, P s → P (qa_u s a j v)) (hm : ∀ s, P s → P (ma_72_3 N s)) (h : P (s.2)) : (fun (b : Int32 × qa_S) => P (b.2)) (qa_wh (fun s => s) (mc_181_99_p12 N l1) n s) := by
  refine qb_whP (I := (fun (s : Int32 × qa_S) => P (s.2))) (Q := (fun (b : Int32 × qa_S) => P (b.2))) (fun s h => h) (fun s h => ?_) n s h
  unfold mc_181_99_p12
  show (fun (x : (Int32 × qa_S) ⊕ ((Int32 × qa_S))) => qa_cs x (fun (s : Int32 × qa_S) => P (s.2)) (fun (b : Int32 × qa_S) => P (b.2))) _
  refine qb_ifP (P := fun (x : (Int32 × qa_S) ⊕ ((Int32 × qa_S))) => qa_cs x (fun (s : Int32 × qa_S) => P (s.2)) (fun (b : Int32 × qa_S) => P (b.2))) ?_ ?_
  · refine qb_inP (P := fun (x : (Int32 × qa_S) ⊕ ((Int32 × qa_S))) => qa_cs x (fun (s : Int32 × qa_S) => P (s.2)) (fun (b : Int32 × qa_S) => P (b.2))) (fun m2 em2 => ?_)
    have p_m2 : P m2 := by rw [em2]; exact hw _ _ (qb_q108 _) _ _ h
    exact p_m2
  · exact h
theorem mg_181_99_p2 {P : qa_S → Prop} {N n : Nat} {s : Int32 × qa_S} (hw : ∀ a j, qb_sc a j → ∀ s v, P s → P (qa_u s a j v)) (hm : ∀ s, P s → P (ma_72_3 N s)) (h : P (s.2)) : (fun (b : Int32 × qa_S) => P (b.2)) (qa_wh (fun s => s) (mc_181_99_p2 N) n s) := by
  refine qb_whP (I := (fun (s : Int32 × qa_S) => P (s.2))) (Q := (fun (b : Int32 × qa_S) => P (b.2))) (fun s h => h) (fun s h => ?_) n s h
  unfold mc_181_99_p2
  show (fun (x : (Int32 × qa_S) ⊕ ((Int32 × qa_S))) => qa_cs x (fun (s : Int32 × qa_S) => P (s.2)) (fun (b : Int32 × qa_S) => P (b.2))) _
  refine qb_ifP (P := fun (x : (Int32 × qa_S) ⊕ ((Int32 × qa_S))) => qa_cs x (fun (s : Int32 × qa_S) => P (s.2)) (fun (b : Int32 × qa_S) => P (b.2))) ?_ ?_
  · refine qb_inP (P := fun (x : (Int32 × qa_S) ⊕ ((Int32 × qa_S))) => qa_cs x (fun (s : Int32 × qa_S) => P (s.2)) (fun (b : Int32 × qa_S) => P (b.2))) (fun r2 er2 => ?_)
    have p_r2 := mg_181_99_p12 hw hm (N := N) (n := N) (l1 := s.1) (s := ((0 : Int32), s.2)) h
    rw [← er2] at p_r2
    exact p_r2
  · exact h
theorem mf_181_99 {P : qa_S → Prop} {N : Nat} {σ : qa_S} (hw : ∀ a j, qb_sc a j → ∀ s v, P s → P (qa_u s a j v)) (hm : ∀ s, P s → P (ma_72_3 N s)) (h : P σ) : P (ma_181_99 N σ) := by
  unfold ma_181_99
  show (fun (z : qa_S) => P z) _
  refine qb_inP (P := fun (z : qa_S) => P z) (fun r1 er1 => ?_)
  have p_r1 := mg_181_99_p2 hw hm (N := N) (n := N)  (s := ((0 : Int32), σ)) h
  rw [← er1] at p_r1
  exact p_r1
theorem mg_180_99_p6 {P : qa_S → Prop} {N n : Nat} {s : Int32 × qa_S} (hw : ∀ a j, qb_sc a j → ∀ s v, P s → P (qa_u s a j v)) (hm : ∀ s, P s → P (ma_72_3 N s)) (h : P (s.2)) : (fun (b : Int32 × qa_S) => P (b.2)) (qa_wh (fun s => s) (mc_180_99_p6 N) n s) := by
  refine qb_whP (I := (fun (s : Int32 × qa_S) => P (s.2))) (Q := (fun (b : Int32 × qa_S) => P (b.2))) (fun s h => h) (fun s h => ?_) n s h
  unfold mc_180_99_p6
  show (fun (x : (Int32 × qa_S) ⊕ ((Int32 × qa_S))) => qa_cs x (fun (s : Int32 × qa_S) => P (s.2)) (fun (b : Int32 × qa_S) => P (b.2))) _
  refine qb_ifP (P := fun (x : (Int32 × qa_S) ⊕ ((Int32 × qa_S))) => qa_cs x (fun (s : Int32 × qa_S) => P (s.2)) (fun (b : Int32 × qa_S) => P (b.2))) ?_ ?_
  · refine qb_inP (P := fun (x : (Int32 × qa_S) ⊕ ((Int32 × qa_S))) => qa_cs x (fun (s : Int32 × qa_S) => P (s.2)) (fun (b : Int32 × qa_S) => P (b.2))) (fun m2 em2 => ?_)
    have p_m2 : P m2 := by rw [em2]; exact hw _ _ (qb_q110 _) _ _ h
    exact p_m2
  · exact h
theorem mg_183_99_p29 {P : qa_S → Prop} {N n : Nat} {l1 : Int32} {s : Int32 × qa_S} (hw : ∀ a j, qb_sc a j → ∀ s v, P s → P (qa_u s a j v)) (hm : ∀ s, P s → P (ma_72_3 N s)) (h : P (s.2)) : (fun (b : Int32 × qa_S) => P (b.2)) (qa_wh (fun s => s) (mc_183_99_p29 N l1) n s) := by
  refine qb_whP (I := (fun (s : Int32 × qa_S) => P (s.2))) (Q := (fun (b : Int32 × qa_S) => P (b.2))) (fun s h => h) (fun s h => ?_) n s h
  unfold mc_183_99_p29
  show (fun (x : (Int32 × qa_S) ⊕ ((Int32 × qa_S))) => qa_cs x (fun (s : Int32 × qa_S) => P (s.2)) (fun (b : Int32 × qa_S) => P (b.2))) _
  refine qb_ifP (P := fun (x : (Int32 × qa_S) ⊕ ((Int32 × qa_S))) => qa_cs x (fun (s : Int32 × qa_S) => P (s.2)) (fun (b : Int32 × qa_S) => P (b.2))) ?_ ?_
  · refine qb_inP (P := fun (x : (Int32 × qa_S) ⊕ ((Int32 × qa_S))) => qa_cs x (fun (s : Int32 × qa_S) => P (s.2)) (fun (b : Int32 × qa_S) => P (b.2))) (fun r2 er2 => ?_)
    refine qb_inP (P := fun (x : (Int32 × qa_S) ⊕ ((Int32 × qa_S))) => qa_cs x (fun (s : Int32 × qa_S) => P (s.2)) (fun (b : Int32 × qa_S) => P (b.2))) (fun m4 em4 => ?_)
    have p_m4 : P m4 := by rw [em4]; exact hw _ _ (qb_q111 _) _ _ h
    exact p_m4
  · exact h
theorem mf_183_99 {P : qa_S → Prop} {N : Nat} {σ : qa_S} (hw : ∀ a j, qb_sc a j → ∀ s v, P s → P (qa_u s a j v)) (hm : ∀ s, P s → P (ma_72_3 N s)) (h : P σ) : P (ma_183_99 N σ) := by
  unfold ma_183_99
  show (fun (z : qa_S) => P z) _
  refine qb_inP (P := fun (z : qa_S) => P z) (fun r1 er1 => ?_)
  refine qb_inP (P := fun (z : qa_S) => P z) (fun r2 er2 => ?_)
  have p_r2 := mg_183_99_p29 hw hm (N := N) (n := N) (l1 := r1.2) (s := ((0 : Int32), σ)) h
  rw [← er2] at p_r2
  exact p_r2
theorem mg_180_99_p38 {P : qa_S → Prop} {N n : Nat} {s : Int32 × qa_S} (hw : ∀ a j, qb_sc a j → ∀ s v, P s → P (qa_u s a j v)) (hm : ∀ s, P s → P (ma_72_3 N s)) (h : P (s.2)) : (fun (b : Int32 × qa_S) => P (b.2)) (qa_wh (fun s => s) (mc_180_99_p38 N) n s) := by
  refine qb_whP (I := (fun (s : Int32 × qa_S) => P (s.2))) (Q := (fun (b : Int32 × qa_S) => P (b.2))) (fun s h => h) (fun s h => ?_) n s h
  unfold mc_180_99_p38
  show (fun (x : (Int32 × qa_S) ⊕ ((Int32 × qa_S))) => qa_cs x (fun (s : Int32 × qa_S) => P (s.2)) (fun (b : Int32 × qa_S) => P (b.2))) _
  refine qb_ifP (P := fun (x : (Int32 × qa_S) ⊕ ((Int32 × qa_S))) => qa_cs x (fun (s : Int32 × qa_S) => P (s.2)) (fun (b : Int32 × qa_S) => P (b.2))) ?_ ?_
  · refine qb_inP (P := fun (x : (Int32 × qa_S) ⊕ ((Int32 × qa_S))) => qa_cs x (fun (s : Int32 × qa_S) => P (s.2)) (fun (b : Int32 × qa_S) => P (b.2))) (fun m2 em2 => ?_)
    have p_m2 : P m2 := by rw [em2]; exact hw _ _ (qb_q109 _) _ _ h
    exact p_m2
  · exact h
theorem mf_180_99 {P : qa_S → Prop} {N : Nat} {σ : qa_S} (hw : ∀ a j, qb_sc a j → ∀ s v, P s → P (qa_u s a j v)) (hm : ∀ s, P s → P (ma_72_3 N s)) (h : P σ) : P (ma_180_99 N σ) := by
  unfold ma_180_99
  show (fun (z : qa_S) => P z) _
  refine qb_inP (P := fun (z : qa_S) => P z) (fun m1 em1 => ?_)
  have p_m1 : P m1 := by rw [em1]; exact mf_181_99 hw hm h
  refine qb_inP (P := fun (z : qa_S) => P z) (fun r2 er2 => ?_)
  have p_r2 := mg_180_99_p6 hw hm (N := N) (n := N)  (s := ((0 : Int32), m1)) p_m1
  rw [← er2] at p_r2
  refine qb_inP (P := fun (z : qa_S) => P z) (fun m3 em3 => ?_)
  have p_m3 : P m3 := by rw [em3]; exact mf_183_99 hw hm p_r2
  refine qb_inP (P := fun (z : qa_S) => P z) (fun r4 er4 => ?_)
  have p_r4 := mg_180_99_p38 hw hm (N := N) (n := N)  (s := ((0 : Int32), m3)) p_m3
  rw [← er4] at p_r4
  exact p_r4
theorem mf_179_99 {P : qa_S → Prop} {N : Nat} {σ : qa_S} {a1 : Int32} {a2 : Int32} (hw : ∀ a j, qb_sc a j → ∀ s v, P s → P (qa_u s a j v)) (hm : ∀ s, P s → P (ma_72_3 N s)) (h : P σ) : P (ma_179_99 N a1 a2 σ).2 := by
  unfold ma_179_99
  show (fun (z : Int32 × qa_S) => P z.2) _
  refine qb_inP (P := fun (z : Int32 × qa_S) => P z.2) (fun m1 em1 => ?_)
  have p_m1 : P m1 := by rw [em1]; exact hw _ _ qb_q99 _ _ h
  refine qb_ifP (P := fun (z : Int32 × qa_S) => P z.2) ?_ ?_
  · refine qb_inP (P := fun (z : Int32 × qa_S) => P z.2) (fun r3 er3 => ?_)
    have p_r3 : P r3.2 := by rw [er3]; exact mf_152_99 hw hm p_m1
    exact p_r3
  · refine qb_ifP (P := fun (z : Int32 × qa_S) => P z.2) ?_ ?_
    · refine qb_inP (P := fun (z : Int32 × qa_S) => P z.2) (fun r5 er5 => ?_)
      have p_r5 : P r5.2 := by rw [er5]; exact mf_152_99 hw hm p_m1
      exact p_r5
    · refine qb_inP (P := fun (z : Int32 × qa_S) => P z.2) (fun m6 em6 => ?_)
      have p_m6 : P m6 := by rw [em6]; exact mf_180_99 hw hm p_m1
      exact p_m6
theorem mf_184_99 {P : qa_S → Prop} {N : Nat} {σ : qa_S} {a1 : Int32} {a2 : Int32} {a3 : Int32} (hw : ∀ a j, qb_sc a j → ∀ s v, P s → P (qa_u s a j v)) (hm : ∀ s, P s → P (ma_72_3 N s)) (h : P σ) : P (ma_184_99 N a1 a2 a3 σ).2 := by
  unfold ma_184_99
  show (fun (z : Int32 × qa_S) => P z.2) _
  refine qb_inP (P := fun (z : Int32 × qa_S) => P z.2) (fun m1 em1 => ?_)
  have p_m1 : P m1 := by rw [em1]; exact hw _ _ qb_q99 _ _ h
  refine qb_ifP (P := fun (z : Int32 × qa_S) => P z.2) ?_ ?_
  · refine qb_inP (P := fun (z : Int32 × qa_S) => P z.2) (fun r3 er3 => ?_)
    have p_r3 : P r3.2 := by rw [er3]; exact mf_152_99 hw hm p_m1
    exact p_r3
  · refine qb_ifP (P := fun (z : Int32 × qa_S) => P z.2) ?_ ?_
    · refine qb_inP (P := fun (z : Int32 × qa_S) => P z.2) (fun r5 er5 => ?_)
      have p_r5 : P r5.2 := by rw [er5]; exact mf_152_99 hw hm p_m1
      exact p_r5
    · refine qb_ifP (P := fun (z : Int32 × qa_S) => P z.2) ?_ ?_
      · refine qb_inP (P := fun (z : Int32 × qa_S) => P z.2) (fun r7 er7 => ?_)
        have p_r7 : P r7.2 := by rw [er7]; exact mf_152_99 hw hm p_m1
        exact p_r7
      · refine qb_inP (P := fun (z : Int32 × qa_S) => P z.2) (fun m8 em8 => ?_)
        have p_m8 : P m8 := by rw [em8]; exact mf_180_99 hw hm p_m1
        exact p_m8
theorem mf_187_99 {P : qa_S → Prop} {N : Nat} {σ : qa_S} {a1 : Int32} {a2 : Int32} {a3 : Int32} (hw : ∀ a j, qb_sc a j → ∀ s v, P s → P (qa_u s a j v)) (hm : ∀ s, P s → P (ma_72_3 N s)) (h : P σ) : P (ma_187_99 N a1 a2 a3 σ).2 := by
  unfold ma_187_99
  show (fun (z : Int32 × qa_S) => P z.2) _
  refine qb_inP (P := fun (z : Int32 × qa_S) => P z.2) (fun m1 em1 => ?_)
  have p_m1 : P m1 := by rw [em1]; exact hw _ _ qb_q99 _ _ h
  refine qb_ifP (P := fun (z : Int32 × qa_S) => P z.2) ?_ ?_
  · refine qb_inP (P := fun (z : Int32 × qa_S) => P z.2) (fun r3 er3 => ?_)
    have p_r3 : P r3.2 := by rw [er3]; exact mf_152_99 hw hm p_m1
    exact p_r3
  · refine qb_ifP (P := fun (z : Int32 × qa_S) => P z.2) ?_ ?_
    · refine qb_inP (P := fun (z : Int32 × qa_S) => P z.2) (fun r5 er5 => ?_)
      have p_r5 : P r5.2 := by rw [er5]; exact mf_152_99 hw hm p_m1
      exact p_r5
    · refine qb_ifP (P := fun (z : Int32 × qa_S) => P z.2) ?_ ?_
      · refine qb_inP (P := fun (z : Int32 × qa_S) => P z.2) (fun r7 er7 => ?_)
        have p_r7 : P r7.2 := by rw [er7]; exact mf_152_99 hw hm p_m1
        exact p_r7
      · refine qb_ifP (P := fun (z : Int32 × qa_S) => P z.2) ?_ ?_
        · refine qb_inP (P := fun (z : Int32 × qa_S) => P z.2) (fun r9 er9 => ?_)
          have p_r9 : P r9.2 := by rw [er9]; exact mf_152_99 hw hm p_m1
          exact p_r9
        · refine qb_inP (P := fun (z : Int32 × qa_S) => P z.2) (fun m10 em10 => ?_)
          have p_m10 : P m10 := by rw [em10]; exact mf_181_99 hw hm p_m1
          refine qb_inP (P := fun (z : Int32 × qa_S) => P z.2) (fun r11 er11 => ?_)
          exact p_m10
theorem mf_189_99 {P : qa_S → Prop} {N : Nat} {σ : qa_S} {a1 : Int32} (hw : ∀ a j, qb_sc a j → ∀ s v, P s → P (qa_u s a j v)) (hm : ∀ s, P s → P (ma_72_3 N s)) (h : P σ) : P (ma_189_99 N a1 σ).2 := by
  unfold ma_189_99
  show (fun (z : Int32 × qa_S) => P z.2) _
  refine qb_inP (P := fun (z : Int32 × qa_S) => P z.2) (fun m1 em1 => ?_)
  have p_m1 : P m1 := by rw [em1]; exact hw _ _ qb_q99 _ _ h
  refine qb_ifP (P := fun (z : Int32 × qa_S) => P z.2) ?_ ?_
  · refine qb_inP (P := fun (z : Int32 × qa_S) => P z.2) (fun r3 er3 => ?_)
    have p_r3 : P r3.2 := by rw [er3]; exact mf_152_99 hw hm p_m1
    exact p_r3
  · refine qb_inP (P := fun (z : Int32 × qa_S) => P z.2) (fun m4 em4 => ?_)
    have p_m4 : P m4 := by rw [em4]; exact mf_181_99 hw hm p_m1
    refine qb_inP (P := fun (z : Int32 × qa_S) => P z.2) (fun r5 er5 => ?_)
    exact p_m4
theorem mg_196_99_p9 {P : qa_S → Prop} {N n : Nat} {s : Int32 × Int32 × qa_S} (hw : ∀ a j, qb_sc a j → ∀ s v, P s → P (qa_u s a j v)) (hm : ∀ s, P s → P (ma_72_3 N s)) (h : P (s.2.2)) : (fun (b : Int32 × Int32 × qa_S) => P (b.2.2)) (qa_wh (fun s => s) (mc_196_99_p9 N) n s) := by
  refine qb_whP (I := (fun (s : Int32 × Int32 × qa_S) => P (s.2.2))) (Q := (fun (b : Int32 × Int32 × qa_S) => P (b.2.2))) (fun s h => h) (fun s h => ?_) n s h
  unfold mc_196_99_p9
  show (fun (x : (Int32 × Int32 × qa_S) ⊕ ((Int32 × Int32 × qa_S))) => qa_cs x (fun (s : Int32 × Int32 × qa_S) => P (s.2.2)) (fun (b : Int32 × Int32 × qa_S) => P (b.2.2))) _
  refine qb_ifP (P := fun (x : (Int32 × Int32 × qa_S) ⊕ ((Int32 × Int32 × qa_S))) => qa_cs x (fun (s : Int32 × Int32 × qa_S) => P (s.2.2)) (fun (b : Int32 × Int32 × qa_S) => P (b.2.2))) ?_ ?_
  · exact h
  · refine qb_inP (P := fun (x : (Int32 × Int32 × qa_S) ⊕ ((Int32 × Int32 × qa_S))) => qa_cs x (fun (s : Int32 × Int32 × qa_S) => P (s.2.2)) (fun (b : Int32 × Int32 × qa_S) => P (b.2.2))) (fun m2 em2 => ?_)
    have p_m2 : P m2 := by rw [em2]; exact hw _ _ (qb_q110 _) _ _ h
    exact p_m2
theorem mf_196_99 {P : qa_S → Prop} {N : Nat} {σ : qa_S} {a1 : Int32} (hw : ∀ a j, qb_sc a j → ∀ s v, P s → P (qa_u s a j v)) (hm : ∀ s, P s → P (ma_72_3 N s)) (h : P σ) : P (ma_196_99 N a1 σ) := by
  unfold ma_196_99
  show (fun (z : qa_S) => P z) _
  refine qb_inP (P := fun (z : qa_S) => P z) (fun r1 er1 => ?_)
  have p_r1 := mg_196_99_p9 hw hm (N := N) (n := N)  (s := (((σ 99 0) - (1 : Int32)), a1, σ)) h
  rw [← er1] at p_r1
  exact p_r1
theorem mg_194_99_p11 {P : qa_S → Prop} {N n : Nat} {l1 : Int32} {s : Int32 × qa_S} (hw : ∀ a j, qb_sc a j → ∀ s v, P s → P (qa_u s a j v)) (hm : ∀ s, P s → P (ma_72_3 N s)) (h : P (s.2)) : (fun (b : Int32 × qa_S) => P (b.2)) (qa_wh (fun s => s) (mc_194_99_p11 N l1) n s) := by
  refine qb_whP (I := (fun (s : Int32 × qa_S) => P (s.2))) (Q := (fun (b : Int32 × qa_S) => P (b.2))) (fun s h => h) (fun s h => ?_) n s h
  unfold mc_194_99_p11
  show (fun (x : (Int32 × qa_S) ⊕ ((Int32 × qa_S))) => qa_cs x (fun (s : Int32 × qa_S) => P (s.2)) (fun (b : Int32 × qa_S) => P (b.2))) _
  refine qb_ifP (P := fun (x : (Int32 × qa_S) ⊕ ((Int32 × qa_S))) => qa_cs x (fun (s : Int32 × qa_S) => P (s.2)) (fun (b : Int32 × qa_S) => P (b.2))) ?_ ?_
  · refine qb_inP (P := fun (x : (Int32 × qa_S) ⊕ ((Int32 × qa_S))) => qa_cs x (fun (s : Int32 × qa_S) => P (s.2)) (fun (b : Int32 × qa_S) => P (b.2))) (fun m2 em2 => ?_)
    have p_m2 : P m2 := by rw [em2]; exact mf_196_99 hw hm h
    refine qb_inP (P := fun (x : (Int32 × qa_S) ⊕ ((Int32 × qa_S))) => qa_cs x (fun (s : Int32 × qa_S) => P (s.2)) (fun (b : Int32 × qa_S) => P (b.2))) (fun m3 em3 => ?_)
    have p_m3 : P m3 := by rw [em3]; exact mf_183_99 hw hm p_m2
    refine qb_inP (P := fun (x : (Int32 × qa_S) ⊕ ((Int32 × qa_S))) => qa_cs x (fun (s : Int32 × qa_S) => P (s.2)) (fun (b : Int32 × qa_S) => P (b.2))) (fun r4 er4 => ?_)
    refine qb_inP (P := fun (x : (Int32 × qa_S) ⊕ ((Int32 × qa_S))) => qa_cs x (fun (s : Int32 × qa_S) => P (s.2)) (fun (b : Int32 × qa_S) => P (b.2))) (fun m5 em5 => ?_)
    have p_m5 : P m5 := by rw [em5]; exact hw _ _ (qb_q112 _) _ _ p_m3
    exact p_m5
  · exact h
theorem mf_194_99 {P : qa_S → Prop} {N : Nat} {σ : qa_S} (hw : ∀ a j, qb_sc a j → ∀ s v, P s → P (qa_u s a j v)) (hm : ∀ s, P s → P (ma_72_3 N s)) (h : P σ) : P (ma_194_99 N σ) := by
  unfold ma_194_99
  show (fun (z : qa_S) => P z) _
  refine qb_inP (P := fun (z : qa_S) => P z) (fun m1 em1 => ?_)
  have p_m1 : P m1 := by rw [em1]; exact mf_180_99 hw hm h
  refine qb_inP (P := fun (z : qa_S) => P z) (fun r2 er2 => ?_)
  refine qb_inP (P := fun (z : qa_S) => P z) (fun r3 er3 => ?_)
  have p_r3 := mg_194_99_p11 hw hm (N := N) (n := N) (l1 := r2) (s := ((1 : Int32), m1)) p_m1
  rw [← er3] at p_r3
  exact p_r3
theorem mf_193_99 {P : qa_S → Prop} {N : Nat} {σ : qa_S} (hw : ∀ a j, qb_sc a j → ∀ s v, P s → P (qa_u s a j v)) (hm : ∀ s, P s → P (ma_72_3 N s)) (h : P σ) : P (ma_193_99 N σ).2 := by
  unfold ma_193_99
  show (fun (z : Int32 × qa_S) => P z.2) _
  refine qb_inP (P := fun (z : Int32 × qa_S) => P z.2) (fun m1 em1 => ?_)
  have p_m1 : P m1 := by rw [em1]; exact mf_194_99 hw hm h
  refine qb_inP (P := fun (z : Int32 × qa_S) => P z.2) (fun r2 er2 => ?_)
  exact p_m1
theorem mf_192_99 {P : qa_S → Prop} {N : Nat} {σ : qa_S} {a1 : Int32} (hw : ∀ a j, qb_sc a j → ∀ s v, P s → P (qa_u s a j v)) (hm : ∀ s, P s → P (ma_72_3 N s)) (h : P σ) : P (ma_192_99 N a1 σ).2 := by
  unfold ma_192_99
  show (fun (z : Int32 × qa_S) => P z.2) _
  refine qb_inP (P := fun (z : Int32 × qa_S) => P z.2) (fun m1 em1 => ?_)
  have p_m1 : P m1 := by rw [em1]; exact hw _ _ qb_q99 _ _ h
  refine qb_ifP (P := fun (z : Int32 × qa_S) => P z.2) ?_ ?_
  · refine qb_inP (P := fun (z : Int32 × qa_S) => P z.2) (fun r3 er3 => ?_)
    have p_r3 : P r3.2 := by rw [er3]; exact mf_152_99 hw hm p_m1
    exact p_r3
  · refine qb_inP (P := fun (z : Int32 × qa_S) => P z.2) (fun r4 er4 => ?_)
    have p_r4 : P r4.2 := by rw [er4]; exact mf_193_99 hw hm p_m1
    refine qb_ifP (P := fun (z : Int32 × qa_S) => P z.2) ?_ ?_
    · exact p_r4
    · refine qb_ifP (P := fun (z : Int32 × qa_S) => P z.2) ?_ ?_
      · exact p_r4
      · refine qb_ifP (P := fun (z : Int32 × qa_S) => P z.2) ?_ ?_
        · refine qb_inP (P := fun (z : Int32 × qa_S) => P z.2) (fun r10 er10 => ?_)
          refine qb_inP (P := fun (z : Int32 × qa_S) => P z.2) (fun m11 em11 => ?_)
          have p_m11 : P m11 := by rw [em11]; exact mf_196_99 hw hm p_r4
          exact p_m11
        · exact p_r4
theorem mg_202_99_p11 {P : qa_S → Prop} {N n : Nat} {l1 : Int32} {l2 : Int32} {l4 : Int32} {s : Int32 × Int32 × qa_S} (hw : ∀ a j, qb_sc a j → ∀ s v, P s → P (qa_u s a j v)) (hm : ∀ s, P s → P (ma_72_3 N s)) (h : P (s.2.2)) : (fun (b : Int32 × Int32 × qa_S) => P (b.2.2)) (qa_wh (fun s => s) (mc_202_99_p11 N l1 l2 l4) n s) := by
  refine qb_whP (I := (fun (s : Int32 × Int32 × qa_S) => P (s.2.2))) (Q := (fun (b : Int32 × Int32 × qa_S) => P (b.2.2))) (fun s h => h) (fun s h => ?_) n s h
  unfold mc_202_99_p11
  show (fun (x : (Int32 × Int32 × qa_S) ⊕ ((Int32 × Int32 × qa_S))) => qa_cs x (fun (s : Int32 × Int32 × qa_S) => P (s.2.2)) (fun (b : Int32 × Int32 × qa_S) => P (b.2.2))) _
  refine qb_ifP (P := fun (x : (Int32 × Int32 × qa_S) ⊕ ((Int32 × Int32 × qa_S))) => qa_cs x (fun (s : Int32 × Int32 × qa_S) => P (s.2.2)) (fun (b : Int32 × Int32 × qa_S) => P (b.2.2))) ?_ ?_
  · refine qb_inP (P := fun (x : (Int32 × Int32 × qa_S) ⊕ ((Int32 × Int32 × qa_S))) => qa_cs x (fun (s : Int32 × Int32 × qa_S) => P (s.2.2)) (fun (b : Int32 × Int32 × qa_S) => P (b.2.2))) (fun m3 em3 => ?_)
    have p_m3 : P m3 := by rw [em3]; exact mf_196_99 hw hm h
    refine qb_inP (P := fun (x : (Int32 × Int32 × qa_S) ⊕ ((Int32 × Int32 × qa_S))) => qa_cs x (fun (s : Int32 × Int32 × qa_S) => P (s.2.2)) (fun (b : Int32 × Int32 × qa_S) => P (b.2.2))) (fun m5 em5 => ?_)
    have p_m5 : P m5 := by rw [em5]; exact qb_ifP p_m3 h
    exact p_m5
  · exact h
theorem mf_202_99 {P : qa_S → Prop} {N : Nat} {σ : qa_S} {a1 : Int32} {a2 : Int32} (hw : ∀ a j, qb_sc a j → ∀ s v, P s → P (qa_u s a j v)) (hm : ∀ s, P s → P (ma_72_3 N s)) (h : P σ) : P (ma_202_99 N a1 a2 σ).2 := by
  unfold ma_202_99
  show (fun (z : Int32 × qa_S) => P z.2) _
  refine qb_inP (P := fun (z : Int32 × qa_S) => P z.2) (fun r1 er1 => ?_)
  refine qb_inP (P := fun (z : Int32 × qa_S) => P z.2) (fun r2 er2 => ?_)
  have p_r2 := mg_202_99_p11 hw hm (N := N) (n := N) (l1 := a1) (l2 := a2) (l4 := r1) (s := ((1 : Int32), (0 : Int32), σ)) h
  rw [← er2] at p_r2
  exact p_r2
theorem mf_200_99 {P : qa_S → Prop} {N : Nat} {σ : qa_S} {a1 : Int32} {a2 : Int32} (hw : ∀ a j, qb_sc a j → ∀ s v, P s → P (qa_u s a j v)) (hm : ∀ s, P s → P (ma_72_3 N s)) (h : P σ) : P (ma_200_99 N a1 a2 σ).2 := by
  unfold ma_200_99
  show (fun (z : Int64 × qa_S) => P z.2) _
  refine qb_inP (P := fun (z : Int64 × qa_S) => P z.2) (fun m1 em1 => ?_)
  have p_m1 : P m1 := by rw [em1]; exact hw _ _ qb_q99 _ _ h
  refine qb_ifP (P := fun (z : Int64 × qa_S) => P z.2) ?_ ?_
  · refine qb_inP (P := fun (z : Int64 × qa_S) => P z.2) (fun r4 er4 => ?_)
    have p_r4 : P r4.2 := by rw [er4]; exact mf_152_99 hw hm p_m1
    exact p_r4
  · refine qb_inP (P := fun (z : Int64 × qa_S) => P z.2) (fun r5 er5 => ?_)
    have p_r5 : P r5.2 := by rw [er5]; exact mf_193_99 hw hm p_m1
    refine qb_inP (P := fun (z : Int64 × qa_S) => P z.2) (fun r7 er7 => ?_)
    have p_r7 : P r7.2 := by rw [er7]; exact mf_202_99 hw hm p_r5
    refine qb_inP (P := fun (z : Int64 × qa_S) => P z.2) (fun r8 er8 => ?_)
    refine qb_inP (P := fun (z : Int64 × qa_S) => P z.2) (fun m9 em9 => ?_)
    have p_m9 : P m9 := by rw [em9]; exact qb_ifP p_r5 p_r7
    exact p_m9
theorem mg_205_99_p32 {P : qa_S → Prop} {N n : Nat} {l1 : Int32} {l2 : Int32} {s : Int32 × Int32 × qa_S} (hw : ∀ a j, qb_sc a j → ∀ s v, P s → P (qa_u s a j v)) (hm : ∀ s, P s → P (ma_72_3 N s)) (h : P (s.2.2)) : (fun (b : Int32 × Int32 × qa_S) => P (b.2.2)) (qa_wh (fun s => s) (mc_205_99_p32 N l1 l2) n s) := by
  refine qb_whP (I := (fun (s : Int32 × Int32 × qa_S) => P (s.2.2))) (Q := (fun (b : Int32 × Int32 × qa_S) => P (b.2.2))) (fun s h => h) (fun s h => ?_) n s h
  unfold mc_205_99_p32
  show (fun (x : (Int32 × Int32 × qa_S) ⊕ ((Int32 × Int32 × qa_S))) => qa_cs x (fun (s : Int32 × Int32 × qa_S) => P (s.2.2)) (fun (b : Int32 × Int32 × qa_S) => P (b.2.2))) _
  refine qb_ifP (P := fun (x : (Int32 × Int32 × qa_S) ⊕ ((Int32 × Int32 × qa_S))) => qa_cs x (fun (s : Int32 × Int32 × qa_S) => P (s.2.2)) (fun (b : Int32 × Int32 × qa_S) => P (b.2.2))) ?_ ?_
  · refine qb_ifP (P := fun (x : (Int32 × Int32 × qa_S) ⊕ ((Int32 × Int32 × qa_S))) => qa_cs x (fun (s : Int32 × Int32 × qa_S) => P (s.2.2)) (fun (b : Int32 × Int32 × qa_S) => P (b.2.2))) ?_ ?_
    · refine qb_inP (P := fun (x : (Int32 × Int32 × qa_S) ⊕ ((Int32 × Int32 × qa_S))) => qa_cs x (fun (s : Int32 × Int32 × qa_S) => P (s.2.2)) (fun (b : Int32 × Int32 × qa_S) => P (b.2.2))) (fun r3 er3 => ?_)
      have p_r3 : P r3.2 := by rw [er3]; exact mf_202_99 hw hm h
      exact p_r3
    · exact h
  · exact h
theorem mf_205_99 {P : qa_S → Prop} {N : Nat} {σ : qa_S} {a1 : Int32} (hw : ∀ a j, qb_sc a j → ∀ s v, P s → P (qa_u s a j v)) (hm : ∀ s, P s → P (ma_72_3 N s)) (h : P σ) : P (ma_205_99 N a1 σ).2 := by
  unfold ma_205_99
  show (fun (z : Int32 × qa_S) => P z.2) _
  refine qb_inP (P := fun (z : Int32 × qa_S) => P z.2) (fun m1 em1 => ?_)
  have p_m1 : P m1 := by rw [em1]; exact hw _ _ qb_q99 _ _ h
  refine qb_ifP (P := fun (z : Int32 × qa_S) => P z.2) ?_ ?_
  · refine qb_inP (P := fun (z : Int32 × qa_S) => P z.2) (fun r3 er3 => ?_)
    have p_r3 : P r3.2 := by rw [er3]; exact mf_152_99 hw hm p_m1
    exact p_r3
  · refine qb_inP (P := fun (z : Int32 × qa_S) => P z.2) (fun r4 er4 => ?_)
    have p_r4 : P r4.2 := by rw [er4]; exact mf_193_99 hw hm p_m1
    refine qb_inP (P := fun (z : Int32 × qa_S) => P z.2) (fun r5 er5 => ?_)
    have p_r5 := mg_205_99_p32 hw hm (N := N) (n := N) (l1 := a1) (l2 := r4.1) (s := ((0 : Int32), (0 : Int32), r4.2)) p_r4
    rw [← er5] at p_r5
    exact p_r5
theorem mf_206_99 {P : qa_S → Prop} {N : Nat} {σ : qa_S} {a1 : Int32} (hw : ∀ a j, qb_sc a j → ∀ s v, P s → P (qa_u s a j v)) (hm : ∀ s, P s → P (ma_72_3 N s)) (h : P σ) : P (ma_206_99 N a1 σ).2 := by
  unfold ma_206_99
  show (fun (z : Int32 × qa_S) => P z.2) _
  refine qb_inP (P := fun (z : Int32 × qa_S) => P z.2) (fun m1 em1 => ?_)
  have p_m1 : P m1 := by rw [em1]; exact hw _ _ qb_q99 _ _ h
  refine qb_ifP (P := fun (z : Int32 × qa_S) => P z.2) ?_ ?_
  · refine qb_inP (P := fun (z : Int32 × qa_S) => P z.2) (fun r3 er3 => ?_)
    have p_r3 : P r3.2 := by rw [er3]; exact mf_152_99 hw hm p_m1
    exact p_r3
  · refine qb_inP (P := fun (z : Int32 × qa_S) => P z.2) (fun m4 em4 => ?_)
    have p_m4 : P m4 := by rw [em4]; exact mf_194_99 hw hm p_m1
    refine qb_inP (P := fun (z : Int32 × qa_S) => P z.2) (fun r5 er5 => ?_)
    exact p_m4
theorem mf_207_99 {P : qa_S → Prop} {N : Nat} {σ : qa_S} (hw : ∀ a j, qb_sc a j → ∀ s v, P s → P (qa_u s a j v)) (hm : ∀ s, P s → P (ma_72_3 N s)) (h : P σ) : P (ma_207_99 N σ).2 := by
  unfold ma_207_99
  show (fun (z : Int32 × qa_S) => P z.2) _
  refine qb_inP (P := fun (z : Int32 × qa_S) => P z.2) (fun m1 em1 => ?_)
  have p_m1 : P m1 := by rw [em1]; exact hw _ _ qb_q99 _ _ h
  refine qb_inP (P := fun (z : Int32 × qa_S) => P z.2) (fun r2 er2 => ?_)
  have p_r2 : P r2.2 := by rw [er2]; exact mf_193_99 hw hm p_m1
  refine qb_inP (P := fun (z : Int32 × qa_S) => P z.2) (fun r3 er3 => ?_)
  exact p_r2
theorem mf_209_99 {P : qa_S → Prop} {N : Nat} {σ : qa_S} {a1 : Int32} {a2 : Int32} (hw : ∀ a j, qb_sc a j → ∀ s v, P s → P (qa_u s a j v)) (hm : ∀ s, P s → P (ma_72_3 N s)) (h : P σ) : P (ma_209_99 N a1 a2 σ).2 := by
  unfold ma_209_99
  show (fun (z : Int32 × qa_S) => P z.2) _
  refine qb_inP (P := fun (z : Int32 × qa_S) => P z.2) (fun m1 em1 => ?_)
  have p_m1 : P m1 := by rw [em1]; exact hw _ _ qb_q99 _ _ h
  refine qb_ifP (P := fun (z : Int32 × qa_S) => P z.2) ?_ ?_
  · refine qb_inP (P := fun (z : Int32 × qa_S) => P z.2) (fun r3 er3 => ?_)
    have p_r3 : P r3.2 := by rw [er3]; exact mf_152_99 hw hm p_m1
    exact p_r3
  · refine qb_ifP (P := fun (z : Int32 × qa_S) => P z.2) ?_ ?_
    · refine qb_inP (P := fun (z : Int32 × qa_S) => P z.2) (fun r5 er5 => ?_)
      have p_r5 : P r5.2 := by rw [er5]; exact mf_152_99 hw hm p_m1
      exact p_r5
    · refine qb_inP (P := fun (z : Int32 × qa_S) => P z.2) (fun m6 em6 => ?_)
      have p_m6 : P m6 := by rw [em6]; exact mf_194_99 hw hm p_m1
      refine qb_inP (P := fun (z : Int32 × qa_S) => P z.2) (fun r7 er7 => ?_)
      refine qb_inP (P := fun (z : Int32 × qa_S) => P z.2) (fun r8 er8 => ?_)
      have p_r8 : P r8.2 := by rw [er8]; exact mf_202_99 hw hm p_m6
      exact p_r8
theorem mf_210_99 {P : qa_S → Prop} {N : Nat} {σ : qa_S} (hw : ∀ a j, qb_sc a j → ∀ s v, P s → P (qa_u s a j v)) (hm : ∀ s, P s → P (ma_72_3 N s)) (h : P σ) : P (ma_210_99 N σ).2 := by
  unfold ma_210_99
  show (fun (z : Int32 × qa_S) => P z.2) _
  refine qb_inP (P := fun (z : Int32 × qa_S) => P z.2) (fun m1 em1 => ?_)
  have p_m1 : P m1 := by rw [em1]; exact hw _ _ qb_q99 _ _ h
  refine qb_inP (P := fun (z : Int32 × qa_S) => P z.2) (fun m2 em2 => ?_)
  have p_m2 : P m2 := by rw [em2]; exact mf_181_99 hw hm p_m1
  refine qb_inP (P := fun (z : Int32 × qa_S) => P z.2) (fun r3 er3 => ?_)
  exact p_m2
theorem mg_214_99_p8 {P : qa_S → Prop} {N n : Nat} {l2 : Int32} {s : Int32 × Int32 × Int32 × qa_S} (hw : ∀ a j, qb_sc a j → ∀ s v, P s → P (qa_u s a j v)) (hm : ∀ s, P s → P (ma_72_3 N s)) (h : P (s.2.2.2)) : (fun (b : Int32 × Int32 × Int32 × qa_S) => P (b.2.2.2)) (qa_wh (fun s => s) (mc_214_99_p8 N l2) n s) := by
  refine qb_whP (I := (fun (s : Int32 × Int32 × Int32 × qa_S) => P (s.2.2.2))) (Q := (fun (b : Int32 × Int32 × Int32 × qa_S) => P (b.2.2.2))) (fun s h => h) (fun s h => ?_) n s h
  unfold mc_214_99_p8
  show (fun (x : (Int32 × Int32 × Int32 × qa_S) ⊕ ((Int32 × Int32 × Int32 × qa_S))) => qa_cs x (fun (s : Int32 × Int32 × Int32 × qa_S) => P (s.2.2.2)) (fun (b : Int32 × Int32 × Int32 × qa_S) => P (b.2.2.2))) _
  refine qb_ifP (P := fun (x : (Int32 × Int32 × Int32 × qa_S) ⊕ ((Int32 × Int32 × Int32 × qa_S))) => qa_cs x (fun (s : Int32 × Int32 × Int32 × qa_S) => P (s.2.2.2)) (fun (b : Int32 × Int32 × Int32 × qa_S) => P (b.2.2.2))) ?_ ?_
  · refine qb_inP (P := fun (x : (Int32 × Int32 × Int32 × qa_S) ⊕ ((Int32 × Int32 × Int32 × qa_S))) => qa_cs x (fun (s : Int32 × Int32 × Int32 × qa_S) => P (s.2.2.2)) (fun (b : Int32 × Int32 × Int32 × qa_S) => P (b.2.2.2))) (fun r2 er2 => ?_)
    refine qb_inP (P := fun (x : (Int32 × Int32 × Int32 × qa_S) ⊕ ((Int32 × Int32 × Int32 × qa_S))) => qa_cs x (fun (s : Int32 × Int32 × Int32 × qa_S) => P (s.2.2.2)) (fun (b : Int32 × Int32 × Int32 × qa_S) => P (b.2.2.2))) (fun r3 er3 => ?_)
    refine qb_inP (P := fun (x : (Int32 × Int32 × Int32 × qa_S) ⊕ ((Int32 × Int32 × Int32 × qa_S))) => qa_cs x (fun (s : Int32 × Int32 × Int32 × qa_S) => P (s.2.2.2)) (fun (b : Int32 × Int32 × Int32 × qa_S) => P (b.2.2.2))) (fun m4 em4 => ?_)
    have p_m4 : P m4 := by rw [em4]; exact hw _ _ (qb_q121 _) _ _ h
    exact p_m4
  · exact h
theorem mf_214_99 {P : qa_S → Prop} {N : Nat} {σ : qa_S} {a1 : Int32} {a2 : Int32} (hw : ∀ a j, qb_sc a j → ∀ s v, P s → P (qa_u s a j v)) (hm : ∀ s, P s → P (ma_72_3 N s)) (h : P σ) : P (ma_214_99 N a1 a2 σ) := by
  unfold ma_214_99
  show (fun (z : qa_S) => P z) _
  refine qb_inP (P := fun (z : qa_S) => P z) (fun r1 er1 => ?_)
  have p_r1 := mg_214_99_p8 hw hm (N := N) (n := N) (l2 := a2) (s := ((0 : Int32), a1, (0 : Int32), σ)) h
  rw [← er1] at p_r1
  exact p_r1
theorem mf_213_99 {P : qa_S → Prop} {N : Nat} {σ : qa_S} {a1 : Int32} {a2 : Int32} (hw : ∀ a j, qb_sc a j → ∀ s v, P s → P (qa_u s a j v)) (hm : ∀ s, P s → P (ma_72_3 N s)) (h : P σ) : P (ma_213_99 N a1 a2 σ).2 := by
  unfold ma_213_99
  show (fun (z : Int32 × qa_S) => P z.2) _
  refine qb_inP (P := fun (z : Int32 × qa_S) => P z.2) (fun m1 em1 => ?_)
  have p_m1 : P m1 := by rw [em1]; exact mf_214_99 hw hm h
  refine qb_inP (P := fun (z : Int32 × qa_S) => P z.2) (fun r2 er2 => ?_)
  exact p_m1
theorem mg_212_99_p80 {P : qa_S → Prop} {N n : Nat} {l1 : Int32} {l2 : Int32} {l6 : Int32} {s : Int32 × Int32 × Int32 × qa_S} (hw : ∀ a j, qb_sc a j → ∀ s v, P s → P (qa_u s a j v)) (hm : ∀ s, P s → P (ma_72_3 N s)) (h : P (s.2.2.2)) : (fun (b : Int32 × Int32 × Int32 × qa_S) => P (b.2.2.2)) (qa_wh (fun s => s) (mc_212_99_p80 N l1 l2 l6) n s) := by
  refine qb_whP (I := (fun (s : Int32 × Int32 × Int32 × qa_S) => P (s.2.2.2))) (Q := (fun (b : Int32 × Int32 × Int32 × qa_S) => P (b.2.2.2))) (fun s h => h) (fun s h => ?_) n s h
  unfold mc_212_99_p80
  show (fun (x : (Int32 × Int32 × Int32 × qa_S) ⊕ ((Int32 × Int32 × Int32 × qa_S))) => qa_cs x (fun (s : Int32 × Int32 × Int32 × qa_S) => P (s.2.2.2)) (fun (b : Int32 × Int32 × Int32 × qa_S) => P (b.2.2.2))) _
  refine qb_ifP (P := fun (x : (Int32 × Int32 × Int32 × qa_S) ⊕ ((Int32 × Int32 × Int32 × qa_S))) => qa_cs x (fun (s : Int32 × Int32 × Int32 × qa_S) => P (s.2.2.2)) (fun (b : Int32 × Int32 × Int32 × qa_S) => P (b.2.2.2))) ?_ ?_
  · refine qb_inP (P := fun (x : (Int32 × Int32 × Int32 × qa_S) ⊕ ((Int32 × Int32 × Int32 × qa_S))) => qa_cs x (fun (s : Int32 × Int32 × Int32 × qa_S) => P (s.2.2.2)) (fun (b : Int32 × Int32 × Int32 × qa_S) => P (b.2.2.2))) (fun r2 er2 => ?_)
    have p_r2 : P r2.2 := by rw [er2]; exact mf_213_99 hw hm h
    exact p_r2
  · exact h
theorem mf_212_99 {P : qa_S → Prop} {N : Nat} {σ : qa_S} {a1 : Int32} {a2 : Int32} (hw : ∀ a j, qb_sc a j → ∀ s v, P s → P (qa_u s a j v)) (hm : ∀ s, P s → P (ma_72_3 N s)) (h : P σ) : P (ma_212_99 N a1 a2 σ).2 := by
  unfold ma_212_99
  show (fun (z : Int32 × qa_S) => P z.2) _
  refine qb_inP (P := fun (z : Int32 × qa_S) => P z.2) (fun m1 em1 => ?_)
  have p_m1 : P m1 := by rw [em1]; exact hw _ _ qb_q99 _ _ h
  refine qb_ifP (P := fun (z : Int32 × qa_S) => P z.2) ?_ ?_
  · refine qb_inP (P := fun (z : Int32 × qa_S) => P z.2) (fun r6 er6 => ?_)
    have p_r6 : P r6.2 := by rw [er6]; exact mf_152_99 hw hm p_m1
    exact p_r6
  · refine qb_inP (P := fun (z : Int32 × qa_S) => P z.2) (fun m7 em7 => ?_)
    have p_m7 : P m7 := by rw [em7]; exact mf_181_99 hw hm p_m1
    refine qb_inP (P := fun (z : Int32 × qa_S) => P z.2) (fun r8 er8 => ?_)
    have p_r8 : P r8.2 := by rw [er8]; exact mf_213_99 hw hm p_m7
    refine qb_inP (P := fun (z : Int32 × qa_S) => P z.2) (fun r9 er9 => ?_)
    refine qb_inP (P := fun (z : Int32 × qa_S) => P z.2) (fun r10 er10 => ?_)
    have p_r10 := mg_212_99_p80 hw hm (N := N) (n := N) (l1 := a1) (l2 := a2) (l6 := r9) (s := ((1 : Int32), (0 : Int32), r8.1, r8.2)) p_r8
    rw [← er10] at p_r10
    refine qb_ifP (P := fun (z : Int32 × qa_S) => P z.2) ?_ ?_
    · exact p_r10
    · refine qb_inP (P := fun (z : Int32 × qa_S) => P z.2) (fun m12 em12 => ?_)
      have p_m12 : P m12 := by rw [em12]; exact mf_214_99 hw hm p_r10
      exact p_m12
theorem mf_218_99 {P : qa_S → Prop} {N : Nat} {σ : qa_S} (hw : ∀ a j, qb_sc a j → ∀ s v, P s → P (qa_u s a j v)) (hm : ∀ s, P s → P (ma_72_3 N s)) (h : P σ) : P (ma_218_99 N σ).2 := by
  unfold ma_218_99
  show (fun (z : Int32 × qa_S) => P z.2) _
  refine qb_inP (P := fun (z : Int32 × qa_S) => P z.2) (fun m1 em1 => ?_)
  have p_m1 : P m1 := by rw [em1]; exact mf_183_99 hw hm h
  refine qb_inP (P := fun (z : Int32 × qa_S) => P z.2) (fun r2 er2 => ?_)
  refine qb_inP (P := fun (z : Int32 × qa_S) => P z.2) (fun r3 er3 => ?_)
  exact p_m1
theorem mg_217_99_p35 {P : qa_S → Prop} {N n : Nat} {l1 : Int32} {s : Int32 × Int32 × Int32 × qa_S} (hw : ∀ a j, qb_sc a j → ∀ s v, P s → P (qa_u s a j v)) (hm : ∀ s, P s → P (ma_72_3 N s)) (h : P (s.2.2.2)) : (fun (b : Int32 × Int32 × Int32 × qa_S) => P (b.2.2.2)) (qa_wh (fun s => s) (mc_217_99_p35 N l1) n s) := by
  refine qb_whP (I := (fun (s : Int32 × Int32 × Int32 × qa_S) => P (s.2.2.2))) (Q := (fun (b : Int32 × Int32 × Int32 × qa_S) => P (b.2.2.2))) (fun s h => h) (fun s h => ?_) n s h
  unfold mc_217_99_p35
  show (fun (x : (Int32 × Int32 × Int32 × qa_S) ⊕ ((Int32 × Int32 × Int32 × qa_S))) => qa_cs x (fun (s : Int32 × Int32 × Int32 × qa_S) => P (s.2.2.2)) (fun (b : Int32 × Int32 × Int32 × qa_S) => P (b.2.2.2))) _
  refine qb_ifP (P := fun (x : (Int32 × Int32 × Int32 × qa_S) ⊕ ((Int32 × Int32 × Int32 × qa_S))) => qa_cs x (fun (s : Int32 × Int32 × Int32 × qa_S) => P (s.2.2.2)) (fun (b : Int32 × Int32 × Int32 × qa_S) => P (b.2.2.2))) ?_ ?_
  · refine qb_inP (P := fun (x : (Int32 × Int32 × Int32 × qa_S) ⊕ ((Int32 × Int32 × Int32 × qa_S))) => qa_cs x (fun (s : Int32 × Int32 × Int32 × qa_S) => P (s.2.2.2)) (fun (b : Int32 × Int32 × Int32 × qa_S) => P (b.2.2.2))) (fun m3 em3 => ?_)
    have p_m3 : P m3 := by rw [em3]; exact hw _ _ (qb_q110 _) _ _ h
    refine qb_inP (P := fun (x : (Int32 × Int32 × Int32 × qa_S) ⊕ ((Int32 × Int32 × Int32 × qa_S))) => qa_cs x (fun (s : Int32 × Int32 × Int32 × qa_S) => P (s.2.2.2)) (fun (b : Int32 × Int32 × Int32 × qa_S) => P (b.2.2.2))) (fun r4 er4 => ?_)
    have p_r4 : P r4.2 := by rw [er4]; exact mf_218_99 hw hm p_m3
    refine qb_inP (P := fun (x : (Int32 × Int32 × Int32 × qa_S) ⊕ ((Int32 × Int32 × Int32 × qa_S))) => qa_cs x (fun (s : Int32 × Int32 × Int32 × qa_S) => P (s.2.2.2)) (fun (b : Int32 × Int32 × Int32 × qa_S) => P (b.2.2.2))) (fun m5 em5 => ?_)
    have p_m5 : P m5 := by rw [em5]; exact hw _ _ (qb_q110 _) _ _ p_r4
    refine qb_inP (P := fun (x : (Int32 × Int32 × Int32 × qa_S) ⊕ ((Int32 × Int32 × Int32 × qa_S))) => qa_cs x (fun (s : Int32 × Int32 × Int32 × qa_S) => P (s.2.2.2)) (fun (b : Int32 × Int32 × Int32 × qa_S) => P (b.2.2.2))) (fun m10 em10 => ?_)
    have p_m10 : P m10 := by rw [em10]; exact qb_ifP p_m5 h
    exact p_m10
  · exact h
theorem mf_217_99 {P : qa_S → Prop} {N : Nat} {σ : qa_S} {a1 : Int32} (hw : ∀ a j, qb_sc a j → ∀ s v, P s → P (qa_u s a j v)) (hm : ∀ s, P s → P (ma_72_3 N s)) (h : P σ) : P (ma_217_99 N a1 σ).2 := by
  unfold ma_217_99
  show (fun (z : Int32 × qa_S) => P z.2) _
  refine qb_inP (P := fun (z : Int32 × qa_S) => P z.2) (fun m1 em1 => ?_)
  have p_m1 : P m1 := by rw [em1]; exact hw _ _ qb_q99 _ _ h
  refine qb_ifP (P := fun (z : Int32 × qa_S) => P z.2) ?_ ?_
  · refine qb_inP (P := fun (z : Int32 × qa_S) => P z.2) (fun r3 er3 => ?_)
    have p_r3 : P r3.2 := by rw [er3]; exact mf_152_99 hw hm p_m1
    exact p_r3
  · refine qb_inP (P := fun (z : Int32 × qa_S) => P z.2) (fun m4 em4 => ?_)
    have p_m4 : P m4 := by rw [em4]; exact mf_180_99 hw hm p_m1
    refine qb_inP (P := fun (z : Int32 × qa_S) => P z.2) (fun r5 er5 => ?_)
    have p_r5 := mg_217_99_p35 hw hm (N := N) (n := N) (l1 := a1) (s := ((0 : Int32), (-9 : Int32), (-9 : Int32), m4)) p_m4
    rw [← er5] at p_r5
    exact p_r5
theorem mf_220_99 {P : qa_S → Prop} {N : Nat} {σ : qa_S} {a1 : Int32} {a2 : Int32} {a3 : Int32} {a4 : Int32} (hw : ∀ a j, qb_sc a j → ∀ s v, P s → P (qa_u s a j v)) (hm : ∀ s, P s → P (ma_72_3 N s)) (h : P σ) : P (ma_220_99 N a1 a2 a3 a4 σ).2 := by
  unfold ma_220_99
  show (fun (z : Int32 × qa_S) => P z.2) _
  refine qb_inP (P := fun (z : Int32 × qa_S) => P z.2) (fun m1 em1 => ?_)
  have p_m1 : P m1 := by rw [em1]; exact hw _ _ qb_q99 _ _ h
  refine qb_ifP (P := fun (z : Int32 × qa_S) => P z.2) ?_ ?_
  · refine qb_inP (P := fun (z : Int32 × qa_S) => P z.2) (fun r8 er8 => ?_)
    have p_r8 : P r8.2 := by rw [er8]; exact mf_152_99 hw hm p_m1
    exact p_r8
  · refine qb_inP (P := fun (z : Int32 × qa_S) => P z.2) (fun r9 er9 => ?_)
    have p_r9 : P r9.2 := by rw [er9]; exact mf_193_99 hw hm p_m1
    refine qb_inP (P := fun (z : Int32 × qa_S) => P z.2) (fun r11 er11 => ?_)
    have p_r11 : P r11.2 := by rw [er11]; exact mf_202_99 hw hm p_r9
    refine qb_inP (P := fun (z : Int32 × qa_S) => P z.2) (fun m12 em12 => ?_)
    have p_m12 : P m12 := by rw [em12]; exact qb_ifP p_r9 p_r11
    refine qb_ifP (P := fun (z : Int32 × qa_S) => P z.2) ?_ ?_
    · exact p_m12
    · refine qb_inP (P := fun (z : Int32 × qa_S) => P z.2) (fun r15 er15 => ?_)
      refine qb_csP (P := fun (z : Int32 × qa_S) => P z.2) (fun b16 q => ?_) (fun b16 q => ?_)
      · exact p_m12
      · exact p_m12
theorem mg_222_99_p2 {P : qa_S → Prop} {N n : Nat} {l1 : Int32} {s : Int32 × qa_S} (hw : ∀ a j, qb_sc a j → ∀ s v, P s → P (qa_u s a j v)) (hm : ∀ s, P s → P (ma_72_3 N s)) (h : P (s.2)) : (fun (b : Int32 × qa_S) => P (b.2)) (qa_wh (fun s => s) (mc_222_99_p2 N l1) n s) := by
  refine qb_whP (I := (fun (s : Int32 × qa_S) => P (s.2))) (Q := (fun (b : Int32 × qa_S) => P (b.2))) (fun s h => h) (fun s h => ?_) n s h
  unfold mc_222_99_p2
  show (fun (x : (Int32 × qa_S) ⊕ ((Int32 × qa_S))) => qa_cs x (fun (s : Int32 × qa_S) => P (s.2)) (fun (b : Int32 × qa_S) => P (b.2))) _
  refine qb_ifP (P := fun (x : (Int32 × qa_S) ⊕ ((Int32 × qa_S))) => qa_cs x (fun (s : Int32 × qa_S) => P (s.2)) (fun (b : Int32 × qa_S) => P (b.2))) ?_ ?_
  · refine qb_inP (P := fun (x : (Int32 × qa_S) ⊕ ((Int32 × qa_S))) => qa_cs x (fun (s : Int32 × qa_S) => P (s.2)) (fun (b : Int32 × qa_S) => P (b.2))) (fun m3 em3 => ?_)
    have p_m3 : P m3 := by rw [em3]; exact hw _ _ (qb_q110 _) _ _ h
    exact p_m3
  · exact h
theorem mf_222_99 {P : qa_S → Prop} {N : Nat} {σ : qa_S} {a1 : Int32} (hw : ∀ a j, qb_sc a j → ∀ s v, P s → P (qa_u s a j v)) (hm : ∀ s, P s → P (ma_72_3 N s)) (h : P σ) : P (ma_222_99 N a1 σ).2 := by
  unfold ma_222_99
  show (fun (z : Int32 × qa_S) => P z.2) _
  refine qb_inP (P := fun (z : Int32 × qa_S) => P z.2) (fun r1 er1 => ?_)
  have p_r1 := mg_222_99_p2 hw hm (N := N) (n := N) (l1 := a1) (s := ((0 : Int32), σ)) h
  rw [← er1] at p_r1
  refine qb_inP (P := fun (z : Int32 × qa_S) => P z.2) (fun m2 em2 => ?_)
  have p_m2 : P m2 := by rw [em2]; exact mf_183_99 hw hm p_r1
  refine qb_inP (P := fun (z : Int32 × qa_S) => P z.2) (fun r3 er3 => ?_)
  exact p_m2
theorem mg_221_99_p120 {P : qa_S → Prop} {N n : Nat} {l1 : Int32} {l2 : Int32} {l4 : Int32} {l5 : Int32} {s : Int32 × Int64 × qa_S} (hw : ∀ a j, qb_sc a j → ∀ s v, P s → P (qa_u s a j v)) (hm : ∀ s, P s → P (ma_72_3 N s)) (h : P (s.2.2)) : (fun (b : Int32 × Int64 × qa_S) => P (b.2.2)) (qa_wh (fun s => s) (mc_221_99_p120 N l1 l2 l4 l5) n s) := by
  refine qb_whP (I := (fun (s : Int32 × Int64 × qa_S) => P (s.2.2))) (Q := (fun (b : Int32 × Int64 × qa_S) => P (b.2.2))) (fun s h => h) (fun s h => ?_) n s h
  unfold mc_221_99_p120
  show (fun (x : (Int32 × Int64 × qa_S) ⊕ ((Int32 × Int64 × qa_S))) => qa_cs x (fun (s : Int32 × Int64 × qa_S) => P (s.2.2)) (fun (b : Int32 × Int64 × qa_S) => P (b.2.2))) _
  refine qb_ifP (P := fun (x : (Int32 × Int64 × qa_S) ⊕ ((Int32 × Int64 × qa_S))) => qa_cs x (fun (s : Int32 × Int64 × qa_S) => P (s.2.2)) (fun (b : Int32 × Int64 × qa_S) => P (b.2.2))) ?_ ?_
  · refine qb_inP (P := fun (x : (Int32 × Int64 × qa_S) ⊕ ((Int32 × Int64 × qa_S))) => qa_cs x (fun (s : Int32 × Int64 × qa_S) => P (s.2.2)) (fun (b : Int32 × Int64 × qa_S) => P (b.2.2))) (fun r4 er4 => ?_)
    refine qb_inP (P := fun (x : (Int32 × Int64 × qa_S) ⊕ ((Int32 × Int64 × qa_S))) => qa_cs x (fun (s : Int32 × Int64 × qa_S) => P (s.2.2)) (fun (b : Int32 × Int64 × qa_S) => P (b.2.2))) (fun r5 er5 => ?_)
    have p_r5 : P r5.2 := by rw [er5]; exact mf_222_99 hw hm h
    refine qb_inP (P := fun (x : (Int32 × Int64 × qa_S) ⊕ ((Int32 × Int64 × qa_S))) => qa_cs x (fun (s : Int32 × Int64 × qa_S) => P (s.2.2)) (fun (b : Int32 × Int64 × qa_S) => P (b.2.2))) (fun r6 er6 => ?_)
    have p_r6 : P r6.2 := by rw [er6]; exact mf_222_99 hw hm p_r5
    refine qb_inP (P := fun (x : (Int32 × Int64 × qa_S) ⊕ ((Int32 × Int64 × qa_S))) => qa_cs x (fun (s : Int32 × Int64 × qa_S) => P (s.2.2)) (fun (b : Int32 × Int64 × qa_S) => P (b.2.2))) (fun r7 er7 => ?_)
    refine qb_inP (P := fun (x : (Int32 × Int64 × qa_S) ⊕ ((Int32 × Int64 × qa_S))) => qa_cs x (fun (s : Int32 × Int64 × qa_S) => P (s.2.2)) (fun (b : Int32 × Int64 × qa_S) => P (b.2.2))) (fun r8 er8 => ?_)
    refine qb_inP (P := fun (x : (Int32 × Int64 × qa_S) ⊕ ((Int32 × Int64 × qa_S))) => qa_cs x (fun (s : Int32 × Int64 × qa_S) => P (s.2.2)) (fun (b : Int32 × Int64 × qa_S) => P (b.2.2))) (fun m9 em9 => ?_)
    have p_m9 : P m9 := by rw [em9]; exact qb_ifP p_r6 h
    refine qb_inP (P := fun (x : (Int32 × Int64 × qa_S) ⊕ ((Int32 × Int64 × qa_S))) => qa_cs x (fun (s : Int32 × Int64 × qa_S) => P (s.2.2)) (fun (b : Int32 × Int64 × qa_S) => P (b.2.2))) (fun m10 em10 => ?_)
    have p_m10 : P m10 := by rw [em10]; exact qb_ifP p_m9 h
    exact p_m10
  · exact h
theorem mf_221_99 {P : qa_S → Prop} {N : Nat} {σ : qa_S} {a1 : Int32} {a2 : Int32} (hw : ∀ a j, qb_sc a j → ∀ s v, P s → P (qa_u s a j v)) (hm : ∀ s, P s → P (ma_72_3 N s)) (h : P σ) : P (ma_221_99 N a1 a2 σ).2 := by
  unfold ma_221_99
  show (fun (z : Int64 × qa_S) => P z.2) _
  refine qb_inP (P := fun (z : Int64 × qa_S) => P z.2) (fun m1 em1 => ?_)
  have p_m1 : P m1 := by rw [em1]; exact hw _ _ qb_q99 _ _ h
  refine qb_ifP (P := fun (z : Int64 × qa_S) => P z.2) ?_ ?_
  · refine qb_inP (P := fun (z : Int64 × qa_S) => P z.2) (fun r6 er6 => ?_)
    have p_r6 : P r6.2 := by rw [er6]; exact mf_152_99 hw hm p_m1
    exact p_r6
  · refine qb_inP (P := fun (z : Int64 × qa_S) => P z.2) (fun m7 em7 => ?_)
    have p_m7 : P m7 := by rw [em7]; exact mf_181_99 hw hm p_m1
    refine qb_inP (P := fun (z : Int64 × qa_S) => P z.2) (fun r8 er8 => ?_)
    refine qb_inP (P := fun (z : Int64 × qa_S) => P z.2) (fun r9 er9 => ?_)
    refine qb_inP (P := fun (z : Int64 × qa_S) => P z.2) (fun r10 er10 => ?_)
    have p_r10 := mg_221_99_p120 hw hm (N := N) (n := N) (l1 := a1) (l2 := a2) (l4 := r8.2) (l5 := r9) (s := ((0 : Int32), (0 : Int64), m7)) p_m7
    rw [← er10] at p_r10
    refine qb_inP (P := fun (z : Int64 × qa_S) => P z.2) (fun r11 er11 => ?_)
    refine qb_inP (P := fun (z : Int64 × qa_S) => P z.2) (fun r12 er12 => ?_)
    exact p_r10
theorem mf_223_99 {P : qa_S → Prop} {N : Nat} {σ : qa_S} {a1 : Int32} {a2 : Int32} (hw : ∀ a j, qb_sc a j → ∀ s v, P s → P (qa_u s a j v)) (hm : ∀ s, P s → P (ma_72_3 N s)) (h : P σ) : P (ma_223_99 N a1 a2 σ).2 := by
  unfold ma_223_99
  show (fun (z : Int64 × qa_S) => P z.2) _
  refine qb_inP (P := fun (z : Int64 × qa_S) => P z.2) (fun m1 em1 => ?_)
  have p_m1 : P m1 := by rw [em1]; exact hw _ _ qb_q99 _ _ h
  refine qb_ifP (P := fun (z : Int64 × qa_S) => P z.2) ?_ ?_
  · refine qb_inP (P := fun (z : Int64 × qa_S) => P z.2) (fun r3 er3 => ?_)
    have p_r3 : P r3.2 := by rw [er3]; exact mf_152_99 hw hm p_m1
    exact p_r3
  · refine qb_inP (P := fun (z : Int64 × qa_S) => P z.2) (fun m4 em4 => ?_)
    have p_m4 : P m4 := by rw [em4]; exact mf_181_99 hw hm p_m1
    refine qb_inP (P := fun (z : Int64 × qa_S) => P z.2) (fun r5 er5 => ?_)
    refine qb_inP (P := fun (z : Int64 × qa_S) => P z.2) (fun r6 er6 => ?_)
    refine qb_inP (P := fun (z : Int64 × qa_S) => P z.2) (fun r7 er7 => ?_)
    exact p_m4
theorem mg_224_99_p92 {P : qa_S → Prop} {N n : Nat} {l1 : Int32} {s : Int32 × qa_S} (hw : ∀ a j, qb_sc a j → ∀ s v, P s → P (qa_u s a j v)) (hm : ∀ s, P s → P (ma_72_3 N s)) (h : P (s.2)) : (fun (b : Int32 × qa_S) => P (b.2)) (qa_wh (fun s => s) (mc_224_99_p92 N l1) n s) := by
  refine qb_whP (I := (fun (s : Int32 × qa_S) => P (s.2))) (Q := (fun (b : Int32 × qa_S) => P (b.2))) (fun s h => h) (fun s h => ?_) n s h
  unfold mc_224_99_p92
  show (fun (x : (Int32 × qa_S) ⊕ ((Int32 × qa_S))) => qa_cs x (fun (s : Int32 × qa_S) => P (s.2)) (fun (b : Int32 × qa_S) => P (b.2))) _
  refine qb_ifP (P := fun (x : (Int32 × qa_S) ⊕ ((Int32 × qa_S))) => qa_cs x (fun (s : Int32 × qa_S) => P (s.2)) (fun (b : Int32 × qa_S) => P (b.2))) ?_ ?_
  · refine qb_inP (P := fun (x : (Int32 × qa_S) ⊕ ((Int32 × qa_S))) => qa_cs x (fun (s : Int32 × qa_S) => P (s.2)) (fun (b : Int32 × qa_S) => P (b.2))) (fun m2 em2 => ?_)
    have p_m2 : P m2 := by rw [em2]; exact hw _ _ (qb_q110 _) _ _ h
    exact p_m2
  · exact h
theorem mf_224_99 {P : qa_S → Prop} {N : Nat} {σ : qa_S} {a1 : Int32} (hw : ∀ a j, qb_sc a j → ∀ s v, P s → P (qa_u s a j v)) (hm : ∀ s, P s → P (ma_72_3 N s)) (h : P σ) : P (ma_224_99 N a1 σ).2 := by
  unfold ma_224_99
  show (fun (z : Int32 × qa_S) => P z.2) _
  refine qb_inP (P := fun (z : Int32 × qa_S) => P z.2) (fun m1 em1 => ?_)
  have p_m1 : P m1 := by rw [em1]; exact hw _ _ qb_q99 _ _ h
  refine qb_inP (P := fun (z : Int32 × qa_S) => P z.2) (fun r4 er4 => ?_)
  refine qb_ifP (P := fun (z : Int32 × qa_S) => P z.2) ?_ ?_
  · refine qb_inP (P := fun (z : Int32 × qa_S) => P z.2) (fun r6 er6 => ?_)
    have p_r6 : P r6.2 := by rw [er6]; exact mf_152_99 hw hm p_m1
    exact p_r6
  · refine qb_inP (P := fun (z : Int32 × qa_S) => P z.2) (fun m7 em7 => ?_)
    have p_m7 : P m7 := by rw [em7]; exact mf_180_99 hw hm p_m1
    refine qb_inP (P := fun (z : Int32 × qa_S) => P z.2) (fun r8 er8 => ?_)
    have p_r8 := mg_224_99_p92 hw hm (N := N) (n := N) (l1 := a1) (s := ((0 : Int32), m7)) p_m7
    rw [← er8] at p_r8
    refine qb_inP (P := fun (z : Int32 × qa_S) => P z.2) (fun m9 em9 => ?_)
    have p_m9 : P m9 := by rw [em9]; exact mf_183_99 hw hm p_r8
    refine qb_inP (P := fun (z : Int32 × qa_S) => P z.2) (fun r10 er10 => ?_)
    exact p_m9
theorem mf_225_99 {P : qa_S → Prop} {N : Nat} {σ : qa_S} {a1 : Int32} {a2 : Int32} (hw : ∀ a j, qb_sc a j → ∀ s v, P s → P (qa_u s a j v)) (hm : ∀ s, P s → P (ma_72_3 N s)) (h : P σ) : P (ma_225_99 N a1 a2 σ).2 := by
  unfold ma_225_99
  show (fun (z : Int32 × qa_S) => P z.2) _
  refine qb_inP (P := fun (z : Int32 × qa_S) => P z.2) (fun m1 em1 => ?_)
  have p_m1 : P m1 := by rw [em1]; exact hw _ _ qb_q99 _ _ h
  refine qb_ifP (P := fun (z : Int32 × qa_S) => P z.2) ?_ ?_
  · refine qb_inP (P := fun (z : Int32 × qa_S) => P z.2) (fun r6 er6 => ?_)
    have p_r6 : P r6.2 := by rw [er6]; exact mf_152_99 hw hm p_m1
    exact p_r6
  · refine qb_inP (P := fun (z : Int32 × qa_S) => P z.2) (fun m7 em7 => ?_)
    have p_m7 : P m7 := by rw [em7]; exact mf_180_99 hw hm p_m1
    refine qb_inP (P := fun (z : Int32 × qa_S) => P z.2) (fun r8 er8 => ?_)
    exact p_m7
theorem mf_226_99 {P : qa_S → Prop} {N : Nat} {σ : qa_S} (hw : ∀ a j, qb_sc a j → ∀ s v, P s → P (qa_u s a j v)) (hm : ∀ s, P s → P (ma_72_3 N s)) (h : P σ) : P (ma_226_99 N σ).2 := by
  unfold ma_226_99
  show (fun (z : Int32 × qa_S) => P z.2) _
  refine qb_inP (P := fun (z : Int32 × qa_S) => P z.2) (fun m1 em1 => ?_)
  have p_m1 : P m1 := by rw [em1]; exact hw _ _ qb_q99 _ _ h
  refine qb_inP (P := fun (z : Int32 × qa_S) => P z.2) (fun m2 em2 => ?_)
  have p_m2 : P m2 := by rw [em2]; exact mf_181_99 hw hm p_m1
  refine qb_inP (P := fun (z : Int32 × qa_S) => P z.2) (fun r3 er3 => ?_)
  exact p_m2
theorem mf_228_99 {P : qa_S → Prop} {N : Nat} {σ : qa_S} (hw : ∀ a j, qb_sc a j → ∀ s v, P s → P (qa_u s a j v)) (hm : ∀ s, P s → P (ma_72_3 N s)) (h : P σ) : P (ma_228_99 N σ).2 := by
  unfold ma_228_99
  show (fun (z : Int32 × qa_S) => P z.2) _
  refine qb_inP (P := fun (z : Int32 × qa_S) => P z.2) (fun m1 em1 => ?_)
  have p_m1 : P m1 := by rw [em1]; exact hw _ _ qb_q99 _ _ h
  refine qb_inP (P := fun (z : Int32 × qa_S) => P z.2) (fun m2 em2 => ?_)
  have p_m2 : P m2 := by rw [em2]; exact mf_181_99 hw hm p_m1
  refine qb_inP (P := fun (z : Int32 × qa_S) => P z.2) (fun r3 er3 => ?_)
  exact p_m2
theorem mf_231_99 {P : qa_S → Prop} {N : Nat} {σ : qa_S} {a1 : Int32} (hw : ∀ a j, qb_sc a j → ∀ s v, P s → P (qa_u s a j v)) (hm : ∀ s, P s → P (ma_72_3 N s)) (h : P σ) : P (ma_231_99 N a1 σ).2 := by
  unfold ma_231_99
  show (fun (z : Int32 × qa_S) => P z.2) _
  refine qb_inP (P := fun (z : Int32 × qa_S) => P z.2) (fun m1 em1 => ?_)
  have p_m1 : P m1 := by rw [em1]; exact hw _ _ qb_q99 _ _ h
  refine qb_ifP (P := fun (z : Int32 × qa_S) => P z.2) ?_ ?_
  · refine qb_inP (P := fun (z : Int32 × qa_S) => P z.2) (fun r3 er3 => ?_)
    have p_r3 : P r3.2 := by rw [er3]; exact mf_152_99 hw hm p_m1
    exact p_r3
  · refine qb_inP (P := fun (z : Int32 × qa_S) => P z.2) (fun m4 em4 => ?_)
    have p_m4 : P m4 := by rw [em4]; exact mf_181_99 hw hm p_m1
    refine qb_inP (P := fun (z : Int32 × qa_S) => P z.2) (fun r5 er5 => ?_)
    exact p_m4
theorem mg_232_99_p51 {P : qa_S → Prop} {N n : Nat} {l1 : Int32} {l2 : Int32} {l5 : Int32} {s : Int32 × Int32 × qa_S} (hw : ∀ a j, qb_sc a j → ∀ s v, P s → P (qa_u s a j v)) (hm : ∀ s, P s → P (ma_72_3 N s)) (h : P (s.2.2)) : (fun (b : Int32 × Int32 × qa_S) => P (b.2.2)) (qa_wh (fun s => s) (mc_232_99_p51 N l1 l2 l5) n s) := by
  refine qb_whP (I := (fun (s : Int32 × Int32 × qa_S) => P (s.2.2))) (Q := (fun (b : Int32 × Int32 × qa_S) => P (b.2.2))) (fun s h => h) (fun s h => ?_) n s h
  unfold mc_232_99_p51
  show (fun (x : (Int32 × Int32 × qa_S) ⊕ ((Int32 × Int32 × qa_S))) => qa_cs x (fun (s : Int32 × Int32 × qa_S) => P (s.2.2)) (fun (b : Int32 × Int32 × qa_S) => P (b.2.2))) _
  refine qb_ifP (P := fun (x : (Int32 × Int32 × qa_S) ⊕ ((Int32 × Int32 × qa_S))) => qa_cs x (fun (s : Int32 × Int32 × qa_S) => P (s.2.2)) (fun (b : Int32 × Int32 × qa_S) => P (b.2.2))) ?_ ?_
  · refine qb_inP (P := fun (x : (Int32 × Int32 × qa_S) ⊕ ((Int32 × Int32 × qa_S))) => qa_cs x (fun (s : Int32 × Int32 × qa_S) => P (s.2.2)) (fun (b : Int32 × Int32 × qa_S) => P (b.2.2))) (fun m2 em2 => ?_)
    have p_m2 : P m2 := by rw [em2]; exact mf_196_99 hw hm h
    refine qb_inP (P := fun (x : (Int32 × Int32 × qa_S) ⊕ ((Int32 × Int32 × qa_S))) => qa_cs x (fun (s : Int32 × Int32 × qa_S) => P (s.2.2)) (fun (b : Int32 × Int32 × qa_S) => P (b.2.2))) (fun m3 em3 => ?_)
    have p_m3 : P m3 := by rw [em3]; exact mf_183_99 hw hm p_m2
    refine qb_inP (P := fun (x : (Int32 × Int32 × qa_S) ⊕ ((Int32 × Int32 × qa_S))) => qa_cs x (fun (s : Int32 × Int32 × qa_S) => P (s.2.2)) (fun (b : Int32 × Int32 × qa_S) => P (b.2.2))) (fun r4 er4 => ?_)
    exact p_m3
  · exact h
theorem mf_232_99 {P : qa_S → Prop} {N : Nat} {σ : qa_S} {a1 : Int32} {a2 : Int32} (hw : ∀ a j, qb_sc a j → ∀ s v, P s → P (qa_u s a j v)) (hm : ∀ s, P s → P (ma_72_3 N s)) (h : P σ) : P (ma_232_99 N a1 a2 σ).2 := by
  unfold ma_232_99
  show (fun (z : Int32 × qa_S) => P z.2) _
  refine qb_inP (P := fun (z : Int32 × qa_S) => P z.2) (fun m1 em1 => ?_)
  have p_m1 : P m1 := by rw [em1]; exact hw _ _ qb_q99 _ _ h
  refine qb_ifP (P := fun (z : Int32 × qa_S) => P z.2) ?_ ?_
  · refine qb_inP (P := fun (z : Int32 × qa_S) => P z.2) (fun r4 er4 => ?_)
    have p_r4 : P r4.2 := by rw [er4]; exact mf_152_99 hw hm p_m1
    exact p_r4
  · refine qb_inP (P := fun (z : Int32 × qa_S) => P z.2) (fun m5 em5 => ?_)
    have p_m5 : P m5 := by rw [em5]; exact mf_181_99 hw hm p_m1
    refine qb_inP (P := fun (z : Int32 × qa_S) => P z.2) (fun r6 er6 => ?_)
    refine qb_inP (P := fun (z : Int32 × qa_S) => P z.2) (fun r7 er7 => ?_)
    have p_r7 := mg_232_99_p51 hw hm (N := N) (n := N) (l1 := a1) (l2 := a2) (l5 := r6) (s := ((1 : Int32), (99 : Int32), m5)) p_m5
    rw [← er7] at p_r7
    exact p_r7
theorem mg_233_99_p23 {P : qa_S → Prop} {N n : Nat} {l1 : Int32} {l2 : Int32} {s : Int32 × qa_S} (hw : ∀ a j, qb_sc a j → ∀ s v, P s → P (qa_u s a j v)) (hm : ∀ s, P s → P (ma_72_3 N s)) (h : P (s.2)) : (fun (b : Int32 × qa_S) => P (b.2)) (qa_wh (fun s => s) (mc_233_99_p23 N l1 l2) n s) := by
  refine qb_whP (I := (fun (s : Int32 × qa_S) => P (s.2))) (Q := (fun (b : Int32 × qa_S) => P (b.2))) (fun s h => h) (fun s h => ?_) n s h
  unfold mc_233_99_p23
  show (fun (x : (Int32 × qa_S) ⊕ ((Int32 × qa_S))) => qa_cs x (fun (s : Int32 × qa_S) => P (s.2)) (fun (b : Int32 × qa_S) => P (b.2))) _
  refine qb_ifP (P := fun (x : (Int32 × qa_S) ⊕ ((Int32 × qa_S))) => qa_cs x (fun (s : Int32 × qa_S) => P (s.2)) (fun (b : Int32 × qa_S) => P (b.2))) ?_ ?_
  · refine qb_inP (P := fun (x : (Int32 × qa_S) ⊕ ((Int32 × qa_S))) => qa_cs x (fun (s : Int32 × qa_S) => P (s.2)) (fun (b : Int32 × qa_S) => P (b.2))) (fun m2 em2 => ?_)
    have p_m2 : P m2 := by rw [em2]; exact hw _ _ (qb_q111 _) _ _ h
    exact p_m2
  · exact h
theorem mg_233_99_p13 {P : qa_S → Prop} {N n : Nat} {s : Int32 × Int32 × qa_S} (hw : ∀ a j, qb_sc a j → ∀ s v, P s → P (qa_u s a j v)) (hm : ∀ s, P s → P (ma_72_3 N s)) (h : P (s.2.2)) : (fun (b : Int32 × Int32 × qa_S) => P (b.2.2)) (qa_wh (fun s => s) (mc_233_99_p13 N) n s) := by
  refine qb_whP (I := (fun (s : Int32 × Int32 × qa_S) => P (s.2.2))) (Q := (fun (b : Int32 × Int32 × qa_S) => P (b.2.2))) (fun s h => h) (fun s h => ?_) n s h
  unfold mc_233_99_p13
  show (fun (x : (Int32 × Int32 × qa_S) ⊕ ((Int32 × Int32 × qa_S))) => qa_cs x (fun (s : Int32 × Int32 × qa_S) => P (s.2.2)) (fun (b : Int32 × Int32 × qa_S) => P (b.2.2))) _
  refine qb_ifP (P := fun (x : (Int32 × Int32 × qa_S) ⊕ ((Int32 × Int32 × qa_S))) => qa_cs x (fun (s : Int32 × Int32 × qa_S) => P (s.2.2)) (fun (b : Int32 × Int32 × qa_S) => P (b.2.2))) ?_ ?_
  · refine qb_inP (P := fun (x : (Int32 × Int32 × qa_S) ⊕ ((Int32 × Int32 × qa_S))) => qa_cs x (fun (s : Int32 × Int32 × qa_S) => P (s.2.2)) (fun (b : Int32 × Int32 × qa_S) => P (b.2.2))) (fun r2 er2 => ?_)
    have p_r2 := mg_233_99_p23 hw hm (N := N) (n := N) (l1 := s.2.1) (l2 := s.1) (s := ((0 : Int32), s.2.2)) h
    rw [← er2] at p_r2
    refine qb_inP (P := fun (x : (Int32 × Int32 × qa_S) ⊕ ((Int32 × Int32 × qa_S))) => qa_cs x (fun (s : Int32 × Int32 × qa_S) => P (s.2.2)) (fun (b : Int32 × Int32 × qa_S) => P (b.2.2))) (fun r3 er3 => ?_)
    exact p_r2
  · exact h
theorem mf_233_99 {P : qa_S → Prop} {N : Nat} {σ : qa_S} (hw : ∀ a j, qb_sc a j → ∀ s v, P s → P (qa_u s a j v)) (hm : ∀ s, P s → P (ma_72_3 N s)) (h : P σ) : P (ma_233_99 N σ).2 := by
  unfold ma_233_99
  show (fun (z : Int32 × qa_S) => P z.2) _
  refine qb_inP (P := fun (z : Int32 × qa_S) => P z.2) (fun m1 em1 => ?_)
  have p_m1 : P m1 := by rw [em1]; exact hw _ _ qb_q99 _ _ h
  refine qb_inP (P := fun (z : Int32 × qa_S) => P z.2) (fun m2 em2 => ?_)
  have p_m2 : P m2 := by rw [em2]; exact mf_180_99 hw hm p_m1
  refine qb_inP (P := fun (z : Int32 × qa_S) => P z.2) (fun r3 er3 => ?_)
  have p_r3 := mg_233_99_p13 hw hm (N := N) (n := N)  (s := ((0 : Int32), (0 : Int32), m2)) p_m2
  rw [← er3] at p_r3
  exact p_r3
theorem mf_234_99 {P : qa_S → Prop} {N : Nat} {σ : qa_S} {a1 : Int32} (hw : ∀ a j, qb_sc a j → ∀ s v, P s → P (qa_u s a j v)) (hm : ∀ s, P s → P (ma_72_3 N s)) (h : P σ) : P (ma_234_99 N a1 σ).2 := by
  unfold ma_234_99
  show (fun (z : Int32 × qa_S) => P z.2) _
  refine qb_inP (P := fun (z : Int32 × qa_S) => P z.2) (fun m1 em1 => ?_)
  have p_m1 : P m1 := by rw [em1]; exact hw _ _ qb_q99 _ _ h
  refine qb_ifP (P := fun (z : Int32 × qa_S) => P z.2) ?_ ?_
  · refine qb_inP (P := fun (z : Int32 × qa_S) => P z.2) (fun r3 er3 => ?_)
    have p_r3 : P r3.2 := by rw [er3]; exact mf_152_99 hw hm p_m1
    exact p_r3
  · refine qb_inP (P := fun (z : Int32 × qa_S) => P z.2) (fun m4 em4 => ?_)
    have p_m4 : P m4 := by rw [em4]; exact mf_194_99 hw hm p_m1
    refine qb_inP (P := fun (z : Int32 × qa_S) => P z.2) (fun r5 er5 => ?_)
    exact p_m4
theorem mg_235_99_p46 {P : qa_S → Prop} {N n : Nat} {l1 : Int32} {l4 : Int32} {s : Int32 × Int32 × Int32 × qa_S} (hw : ∀ a j, qb_sc a j → ∀ s v, P s → P (qa_u s a j v)) (hm : ∀ s, P s → P (ma_72_3 N s)) (h : P (s.2.2.2)) : (fun (b : Int32 × Int32 × Int32 × qa_S) => P (b.2.2.2)) (qa_wh (fun s => s) (mc_235_99_p46 N l1 l4) n s) := by
  refine qb_whP (I := (fun (s : Int32 × Int32 × Int32 × qa_S) => P (s.2.2.2))) (Q := (fun (b : Int32 × Int32 × Int32 × qa_S) => P (b.2.2.2))) (fun s h => h) (fun s h => ?_) n s h
  unfold mc_235_99_p46
  show (fun (x : (Int32 × Int32 × Int32 × qa_S) ⊕ ((Int32 × Int32 × Int32 × qa_S))) => qa_cs x (fun (s : Int32 × Int32 × Int32 × qa_S) => P (s.2.2.2)) (fun (b : Int32 × Int32 × Int32 × qa_S) => P (b.2.2.2))) _
  refine qb_ifP (P := fun (x : (Int32 × Int32 × Int32 × qa_S) ⊕ ((Int32 × Int32 × Int32 × qa_S))) => qa_cs x (fun (s : Int32 × Int32 × Int32 × qa_S) => P (s.2.2.2)) (fun (b : Int32 × Int32 × Int32 × qa_S) => P (b.2.2.2))) ?_ ?_
  · exact h
  · refine qb_inP (P := fun (x : (Int32 × Int32 × Int32 × qa_S) ⊕ ((Int32 × Int32 × Int32 × qa_S))) => qa_cs x (fun (s : Int32 × Int32 × Int32 × qa_S) => P (s.2.2.2)) (fun (b : Int32 × Int32 × Int32 × qa_S) => P (b.2.2.2))) (fun m3 em3 => ?_)
    have p_m3 : P m3 := by rw [em3]; exact hw _ _ (qb_q110 _) _ _ h
    refine qb_inP (P := fun (x : (Int32 × Int32 × Int32 × qa_S) ⊕ ((Int32 × Int32 × Int32 × qa_S))) => qa_cs x (fun (s : Int32 × Int32 × Int32 × qa_S) => P (s.2.2.2)) (fun (b : Int32 × Int32 × Int32 × qa_S) => P (b.2.2.2))) (fun r4 er4 => ?_)
    have p_r4 : P r4.2 := by rw [er4]; exact mf_218_99 hw hm p_m3
    refine qb_inP (P := fun (x : (Int32 × Int32 × Int32 × qa_S) ⊕ ((Int32 × Int32 × Int32 × qa_S))) => qa_cs x (fun (s : Int32 × Int32 × Int32 × qa_S) => P (s.2.2.2)) (fun (b : Int32 × Int32 × Int32 × qa_S) => P (b.2.2.2))) (fun m6 em6 => ?_)
    have p_m6 : P m6 := by rw [em6]; exact hw _ _ (qb_q110 _) _ _ p_r4
    refine qb_inP (P := fun (x : (Int32 × Int32 × Int32 × qa_S) ⊕ ((Int32 × Int32 × Int32 × qa_S))) => qa_cs x (fun (s : Int32 × Int32 × Int32 × qa_S) => P (s.2.2.2)) (fun (b : Int32 × Int32 × Int32 × qa_S) => P (b.2.2.2))) (fun m10 em10 => ?_)
    have p_m10 : P m10 := by rw [em10]; exact qb_ifP h p_m6
    exact p_m10
theorem mg_235_99_p34 {P : qa_S → Prop} {N n : Nat} {l1 : Int32} {s : Int32 × Int32 × Int32 × qa_S} (hw : ∀ a j, qb_sc a j → ∀ s v, P s → P (qa_u s a j v)) (hm : ∀ s, P s → P (ma_72_3 N s)) (h : P (s.2.2.2)) : (fun (b : Int32 × Int32 × Int32 × qa_S) => P (b.2.2.2)) (qa_wh (fun s => s) (mc_235_99_p34 N l1) n s) := by
  refine qb_whP (I := (fun (s : Int32 × Int32 × Int32 × qa_S) => P (s.2.2.2))) (Q := (fun (b : Int32 × Int32 × Int32 × qa_S) => P (b.2.2.2))) (fun s h => h) (fun s h => ?_) n s h
  unfold mc_235_99_p34
  show (fun (x : (Int32 × Int32 × Int32 × qa_S) ⊕ ((Int32 × Int32 × Int32 × qa_S))) => qa_cs x (fun (s : Int32 × Int32 × Int32 × qa_S) => P (s.2.2.2)) (fun (b : Int32 × Int32 × Int32 × qa_S) => P (b.2.2.2))) _
  refine qb_ifP (P := fun (x : (Int32 × Int32 × Int32 × qa_S) ⊕ ((Int32 × Int32 × Int32 × qa_S))) => qa_cs x (fun (s : Int32 × Int32 × Int32 × qa_S) => P (s.2.2.2)) (fun (b : Int32 × Int32 × Int32 × qa_S) => P (b.2.2.2))) ?_ ?_
  · refine qb_inP (P := fun (x : (Int32 × Int32 × Int32 × qa_S) ⊕ ((Int32 × Int32 × Int32 × qa_S))) => qa_cs x (fun (s : Int32 × Int32 × Int32 × qa_S) => P (s.2.2.2)) (fun (b : Int32 × Int32 × Int32 × qa_S) => P (b.2.2.2))) (fun r2 er2 => ?_)
    have p_r2 := mg_235_99_p46 hw hm (N := N) (n := N) (l1 := l1) (l4 := s.1) (s := ((-1 : Int32), s.2.1, s.2.2.1, s.2.2.2)) h
    rw [← er2] at p_r2
    exact p_r2
  · exact h
theorem mf_235_99 {P : qa_S → Prop} {N : Nat} {σ : qa_S} {a1 : Int32} (hw : ∀ a j, qb_sc a j → ∀ s v, P s → P (qa_u s a j v)) (hm : ∀ s, P s → P (ma_72_3 N s)) (h : P σ) : P (ma_235_99 N a1 σ).2 := by
  unfold ma_235_99
  show (fun (z : Int32 × qa_S) => P z.2) _
  refine qb_inP (P := fun (z : Int32 × qa_S) => P z.2) (fun m1 em1 => ?_)
  have p_m1 : P m1 := by rw [em1]; exact hw _ _ qb_q99 _ _ h
  refine qb_ifP (P := fun (z : Int32 × qa_S) => P z.2) ?_ ?_
  · refine qb_inP (P := fun (z : Int32 × qa_S) => P z.2) (fun r3 er3 => ?_)
    have p_r3 : P r3.2 := by rw [er3]; exact mf_152_99 hw hm p_m1
    exact p_r3
  · refine qb_inP (P := fun (z : Int32 × qa_S) => P z.2) (fun m4 em4 => ?_)
    have p_m4 : P m4 := by rw [em4]; exact mf_180_99 hw hm p_m1
    refine qb_inP (P := fun (z : Int32 × qa_S) => P z.2) (fun r5 er5 => ?_)
    have p_r5 := mg_235_99_p34 hw hm (N := N) (n := N) (l1 := a1) (s := ((0 : Int32), (0 : Int32), (-9 : Int32), m4)) p_m4
    rw [← er5] at p_r5
    exact p_r5
theorem mf_236_99 {P : qa_S → Prop} {N : Nat} {σ : qa_S} {a1 : Int32} (hw : ∀ a j, qb_sc a j → ∀ s v, P s → P (qa_u s a j v)) (hm : ∀ s, P s → P (ma_72_3 N s)) (h : P σ) : P (ma_236_99 N a1 σ).2 := by
  unfold ma_236_99
  show (fun (z : Int32 × qa_S) => P z.2) _
  refine qb_inP (P := fun (z : Int32 × qa_S) => P z.2) (fun m1 em1 => ?_)
  have p_m1 : P m1 := by rw [em1]; exact hw _ _ qb_q99 _ _ h
  refine qb_ifP (P := fun (z : Int32 × qa_S) => P z.2) ?_ ?_
  · refine qb_inP (P := fun (z : Int32 × qa_S) => P z.2) (fun r3 er3 => ?_)
    have p_r3 : P r3.2 := by rw [er3]; exact mf_152_99 hw hm p_m1
    exact p_r3
  · refine qb_inP (P := fun (z : Int32 × qa_S) => P z.2) (fun m4 em4 => ?_)
    have p_m4 : P m4 := by rw [em4]; exact mf_181_99 hw hm p_m1
    refine qb_inP (P := fun (z : Int32 × qa_S) => P z.2) (fun r5 er5 => ?_)
    refine qb_inP (P := fun (z : Int32 × qa_S) => P z.2) (fun r6 er6 => ?_)
    refine qb_csP (P := fun (z : Int32 × qa_S) => P z.2) (fun b7 q => ?_) (fun b7 q => ?_)
    · exact p_m4
    · exact p_m4
theorem mg_237_99_p33 {P : qa_S → Prop} {N n : Nat} {l1 : Int32} {l2 : Int32} {s : Int32 × Int32 × qa_S} (hw : ∀ a j, qb_sc a j → ∀ s v, P s → P (qa_u s a j v)) (hm : ∀ s, P s → P (ma_72_3 N s)) (h : P (s.2.2)) : (fun (b : Int32 × Int32 × qa_S) => P (b.2.2)) (qa_wh (fun s => s) (mc_237_99_p33 N l1 l2) n s) := by
  refine qb_whP (I := (fun (s : Int32 × Int32 × qa_S) => P (s.2.2))) (Q := (fun (b : Int32 × Int32 × qa_S) => P (b.2.2))) (fun s h => h) (fun s h => ?_) n s h
  unfold mc_237_99_p33
  show (fun (x : (Int32 × Int32 × qa_S) ⊕ ((Int32 × Int32 × qa_S))) => qa_cs x (fun (s : Int32 × Int32 × qa_S) => P (s.2.2)) (fun (b : Int32 × Int32 × qa_S) => P (b.2.2))) _
  refine qb_ifP (P := fun (x : (Int32 × Int32 × qa_S) ⊕ ((Int32 × Int32 × qa_S))) => qa_cs x (fun (s : Int32 × Int32 × qa_S) => P (s.2.2)) (fun (b : Int32 × Int32 × qa_S) => P (b.2.2))) ?_ ?_
  · refine qb_inP (P := fun (x : (Int32 × Int32 × qa_S) ⊕ ((Int32 × Int32 × qa_S))) => qa_cs x (fun (s : Int32 × Int32 × qa_S) => P (s.2.2)) (fun (b : Int32 × Int32 × qa_S) => P (b.2.2))) (fun m2 em2 => ?_)
    have p_m2 : P m2 := by rw [em2]; exact mf_196_99 hw hm h
    refine qb_inP (P := fun (x : (Int32 × Int32 × qa_S) ⊕ ((Int32 × Int32 × qa_S))) => qa_cs x (fun (s : Int32 × Int32 × qa_S) => P (s.2.2)) (fun (b : Int32 × Int32 × qa_S) => P (b.2.2))) (fun m3 em3 => ?_)
    have p_m3 : P m3 := by rw [em3]; exact mf_183_99 hw hm p_m2
    refine qb_inP (P := fun (x : (Int32 × Int32 × qa_S) ⊕ ((Int32 × Int32 × qa_S))) => qa_cs x (fun (s : Int32 × Int32 × qa_S) => P (s.2.2)) (fun (b : Int32 × Int32 × qa_S) => P (b.2.2))) (fun r4 er4 => ?_)
    refine qb_inP (P := fun (x : (Int32 × Int32 × qa_S) ⊕ ((Int32 × Int32 × qa_S))) => qa_cs x (fun (s : Int32 × Int32 × qa_S) => P (s.2.2)) (fun (b : Int32 × Int32 × qa_S) => P (b.2.2))) (fun r5 er5 => ?_)
    refine qb_inP (P := fun (x : (Int32 × Int32 × qa_S) ⊕ ((Int32 × Int32 × qa_S))) => qa_cs x (fun (s : Int32 × Int32 × qa_S) => P (s.2.2)) (fun (b : Int32 × Int32 × qa_S) => P (b.2.2))) (fun m7 em7 => ?_)
    have p_m7 : P m7 := by rw [em7]; exact hw _ _ (qb_q123 _) _ _ p_m3
    refine qb_inP (P := fun (x : (Int32 × Int32 × qa_S) ⊕ ((Int32 × Int32 × qa_S))) => qa_cs x (fun (s : Int32 × Int32 × qa_S) => P (s.2.2)) (fun (b : Int32 × Int32 × qa_S) => P (b.2.2))) (fun m8 em8 => ?_)
    have p_m8 : P m8 := by rw [em8]; exact qb_ifP p_m3 p_m7
    exact p_m8
  · exact h
theorem mf_237_99 {P : qa_S → Prop} {N : Nat} {σ : qa_S} {a1 : Int32} (hw : ∀ a j, qb_sc a j → ∀ s v, P s → P (qa_u s a j v)) (hm : ∀ s, P s → P (ma_72_3 N s)) (h : P σ) : P (ma_237_99 N a1 σ).2 := by
  unfold ma_237_99
  show (fun (z : Int32 × qa_S) => P z.2) _
  refine qb_inP (P := fun (z : Int32 × qa_S) => P z.2) (fun m1 em1 => ?_)
  have p_m1 : P m1 := by rw [em1]; exact hw _ _ qb_q99 _ _ h
  refine qb_ifP (P := fun (z : Int32 × qa_S) => P z.2) ?_ ?_
  · refine qb_inP (P := fun (z : Int32 × qa_S) => P z.2) (fun r3 er3 => ?_)
    have p_r3 : P r3.2 := by rw [er3]; exact mf_152_99 hw hm p_m1
    exact p_r3
  · refine qb_inP (P := fun (z : Int32 × qa_S) => P z.2) (fun m4 em4 => ?_)
    have p_m4 : P m4 := by rw [em4]; exact mf_181_99 hw hm p_m1
    refine qb_inP (P := fun (z : Int32 × qa_S) => P z.2) (fun r5 er5 => ?_)
    refine qb_inP (P := fun (z : Int32 × qa_S) => P z.2) (fun r6 er6 => ?_)
    have p_r6 := mg_237_99_p33 hw hm (N := N) (n := N) (l1 := a1) (l2 := r5) (s := ((1 : Int32), (0 : Int32), m4)) p_m4
    rw [← er6] at p_r6
    exact p_r6
theorem mg_238_99_p52 {P : qa_S → Prop} {N n : Nat} {l1 : Int32} {s : Int32 × Int32 × qa_S} (hw : ∀ a j, qb_sc a j → ∀ s v, P s → P (qa_u s a j v)) (hm : ∀ s, P s → P (ma_72_3 N s)) (h : P (s.2.2)) : (fun (b : Int32 × Int32 × qa_S) => P (b.2.2)) (qa_wh (fun s => s) (mc_238_99_p52 N l1) n s) := by
  refine qb_whP (I := (fun (s : Int32 × Int32 × qa_S) => P (s.2.2))) (Q := (fun (b : Int32 × Int32 × qa_S) => P (b.2.2))) (fun s h => h) (fun s h => ?_) n s h
  unfold mc_238_99_p52
  show (fun (x : (Int32 × Int32 × qa_S) ⊕ ((Int32 × Int32 × qa_S))) => qa_cs x (fun (s : Int32 × Int32 × qa_S) => P (s.2.2)) (fun (b : Int32 × Int32 × qa_S) => P (b.2.2))) _
  refine qb_ifP (P := fun (x : (Int32 × Int32 × qa_S) ⊕ ((Int32 × Int32 × qa_S))) => qa_cs x (fun (s : Int32 × Int32 × qa_S) => P (s.2.2)) (fun (b : Int32 × Int32 × qa_S) => P (b.2.2))) ?_ ?_
  · refine qb_inP (P := fun (x : (Int32 × Int32 × qa_S) ⊕ ((Int32 × Int32 × qa_S))) => qa_cs x (fun (s : Int32 × Int32 × qa_S) => P (s.2.2)) (fun (b : Int32 × Int32 × qa_S) => P (b.2.2))) (fun m3 em3 => ?_)
    have p_m3 : P m3 := by rw [em3]; exact hw _ _ (qb_q110 _) _ _ h
    refine qb_inP (P := fun (x : (Int32 × Int32 × qa_S) ⊕ ((Int32 × Int32 × qa_S))) => qa_cs x (fun (s : Int32 × Int32 × qa_S) => P (s.2.2)) (fun (b : Int32 × Int32 × qa_S) => P (b.2.2))) (fun m5 em5 => ?_)
    have p_m5 : P m5 := by rw [em5]; exact hw _ _ (qb_q110 _) _ _ p_m3
    refine qb_inP (P := fun (x : (Int32 × Int32 × qa_S) ⊕ ((Int32 × Int32 × qa_S))) => qa_cs x (fun (s : Int32 × Int32 × qa_S) => P (s.2.2)) (fun (b : Int32 × Int32 × qa_S) => P (b.2.2))) (fun r6 er6 => ?_)
    have p_r6 : P r6.2 := by rw [er6]; exact mf_218_99 hw hm p_m5
    refine qb_inP (P := fun (x : (Int32 × Int32 × qa_S) ⊕ ((Int32 × Int32 × qa_S))) => qa_cs x (fun (s : Int32 × Int32 × qa_S) => P (s.2.2)) (fun (b : Int32 × Int32 × qa_S) => P (b.2.2))) (fun m8 em8 => ?_)
    have p_m8 : P m8 := by rw [em8]; exact hw _ _ (qb_q110 _) _ _ p_r6
    refine qb_inP (P := fun (x : (Int32 × Int32 × qa_S) ⊕ ((Int32 × Int32 × qa_S))) => qa_cs x (fun (s : Int32 × Int32 × qa_S) => P (s.2.2)) (fun (b : Int32 × Int32 × qa_S) => P (b.2.2))) (fun m9 em9 => ?_)
    have p_m9 : P m9 := by rw [em9]; exact hw _ _ (qb_q110 _) _ _ p_m8
    refine qb_inP (P := fun (x : (Int32 × Int32 × qa_S) ⊕ ((Int32 × Int32 × qa_S))) => qa_cs x (fun (s : Int32 × Int32 × qa_S) => P (s.2.2)) (fun (b : Int32 × Int32 × qa_S) => P (b.2.2))) (fun m10 em10 => ?_)
    have p_m10 : P m10 := by rw [em10]; exact qb_ifP h p_m9
    exact p_m10
  · exact h
theorem mf_238_99 {P : qa_S → Prop} {N : Nat} {σ : qa_S} {a1 : Int32} (hw : ∀ a j, qb_sc a j → ∀ s v, P s → P (qa_u s a j v)) (hm : ∀ s, P s → P (ma_72_3 N s)) (h : P σ) : P (ma_238_99 N a1 σ).2 := by
  unfold ma_238_99
  show (fun (z : Int32 × qa_S) => P z.2) _
  refine qb_inP (P := fun (z : Int32 × qa_S) => P z.2) (fun m1 em1 => ?_)
  have p_m1 : P m1 := by rw [em1]; exact hw _ _ qb_q99 _ _ h
  refine qb_ifP (P := fun (z : Int32 × qa_S) => P z.2) ?_ ?_
  · refine qb_inP (P := fun (z : Int32 × qa_S) => P z.2) (fun r5 er5 => ?_)
    have p_r5 : P r5.2 := by rw [er5]; exact mf_152_99 hw hm p_m1
    exact p_r5
  · refine qb_inP (P := fun (z : Int32 × qa_S) => P z.2) (fun m6 em6 => ?_)
    have p_m6 : P m6 := by rw [em6]; exact mf_180_99 hw hm p_m1
    refine qb_inP (P := fun (z : Int32 × qa_S) => P z.2) (fun r7 er7 => ?_)
    have p_r7 := mg_238_99_p52 hw hm (N := N) (n := N) (l1 := a1) (s := ((0 : Int32), (0 : Int32), m6)) p_m6
    rw [← er7] at p_r7
    exact p_r7
theorem mf_239_99 {P : qa_S → Prop} {N : Nat} {σ : qa_S} {a1 : Int32} (hw : ∀ a j, qb_sc a j → ∀ s v, P s → P (qa_u s a j v)) (hm : ∀ s, P s → P (ma_72_3 N s)) (h : P σ) : P (ma_239_99 N a1 σ).2 := by
  unfold ma_239_99
  show (fun (z : Int32 × qa_S) => P z.2) _
  refine qb_inP (P := fun (z : Int32 × qa_S) => P z.2) (fun m1 em1 => ?_)
  have p_m1 : P m1 := by rw [em1]; exact hw _ _ qb_q99 _ _ h
  refine qb_ifP (P := fun (z : Int32 × qa_S) => P z.2) ?_ ?_
  · refine qb_inP (P := fun (z : Int32 × qa_S) => P z.2) (fun r3 er3 => ?_)
    have p_r3 : P r3.2 := by rw [er3]; exact mf_152_99 hw hm p_m1
    exact p_r3
  · refine qb_inP (P := fun (z : Int32 × qa_S) => P z.2) (fun m4 em4 => ?_)
    have p_m4 : P m4 := by rw [em4]; exact mf_181_99 hw hm p_m1
    refine qb_inP (P := fun (z : Int32 × qa_S) => P z.2) (fun r5 er5 => ?_)
    exact p_m4
theorem mg_241_99_p60 {P : qa_S → Prop} {N n : Nat} {l1 : Int32} {l3 : Int32} {s : Int32 × Int32 × Int32 × qa_S} (hw : ∀ a j, qb_sc a j → ∀ s v, P s → P (qa_u s a j v)) (hm : ∀ s, P s → P (ma_72_3 N s)) (h : P (s.2.2.2)) : (fun (b : Int32 × Int32 × Int32 × qa_S) => P (b.2.2.2)) (qa_wh (fun s => s) (mc_241_99_p60 N l1 l3) n s) := by
  refine qb_whP (I := (fun (s : Int32 × Int32 × Int32 × qa_S) => P (s.2.2.2))) (Q := (fun (b : Int32 × Int32 × Int32 × qa_S) => P (b.2.2.2))) (fun s h => h) (fun s h => ?_) n s h
  unfold mc_241_99_p60
  show (fun (x : (Int32 × Int32 × Int32 × qa_S) ⊕ ((Int32 × Int32 × Int32 × qa_S))) => qa_cs x (fun (s : Int32 × Int32 × Int32 × qa_S) => P (s.2.2.2)) (fun (b : Int32 × Int32 × Int32 × qa_S) => P (b.2.2.2))) _
  refine qb_ifP (P := fun (x : (Int32 × Int32 × Int32 × qa_S) ⊕ ((Int32 × Int32 × Int32 × qa_S))) => qa_cs x (fun (s : Int32 × Int32 × Int32 × qa_S) => P (s.2.2.2)) (fun (b : Int32 × Int32 × Int32 × qa_S) => P (b.2.2.2))) ?_ ?_
  · refine qb_inP (P := fun (x : (Int32 × Int32 × Int32 × qa_S) ⊕ ((Int32 × Int32 × Int32 × qa_S))) => qa_cs x (fun (s : Int32 × Int32 × Int32 × qa_S) => P (s.2.2.2)) (fun (b : Int32 × Int32 × Int32 × qa_S) => P (b.2.2.2))) (fun m2 em2 => ?_)
    have p_m2 : P m2 := by rw [em2]; exact mf_196_99 hw hm h
    refine qb_inP (P := fun (x : (Int32 × Int32 × Int32 × qa_S) ⊕ ((Int32 × Int32 × Int32 × qa_S))) => qa_cs x (fun (s : Int32 × Int32 × Int32 × qa_S) => P (s.2.2.2)) (fun (b : Int32 × Int32 × Int32 × qa_S) => P (b.2.2.2))) (fun m3 em3 => ?_)
    have p_m3 : P m3 := by rw [em3]; exact mf_183_99 hw hm p_m2
    refine qb_inP (P := fun (x : (Int32 × Int32 × Int32 × qa_S) ⊕ ((Int32 × Int32 × Int32 × qa_S))) => qa_cs x (fun (s : Int32 × Int32 × Int32 × qa_S) => P (s.2.2.2)) (fun (b : Int32 × Int32 × Int32 × qa_S) => P (b.2.2.2))) (fun r4 er4 => ?_)
    exact p_m3
  · exact h
theorem mf_241_99 {P : qa_S → Prop} {N : Nat} {σ : qa_S} {a1 : Int32} (hw : ∀ a j, qb_sc a j → ∀ s v, P s → P (qa_u s a j v)) (hm : ∀ s, P s → P (ma_72_3 N s)) (h : P σ) : P (ma_241_99 N a1 σ).2 := by
  unfold ma_241_99
  show (fun (z : Int32 × qa_S) => P z.2) _
  refine qb_inP (P := fun (z : Int32 × qa_S) => P z.2) (fun m1 em1 => ?_)
  have p_m1 : P m1 := by rw [em1]; exact hw _ _ qb_q99 _ _ h
  refine qb_ifP (P := fun (z : Int32 × qa_S) => P z.2) ?_ ?_
  · refine qb_inP (P := fun (z : Int32 × qa_S) => P z.2) (fun r5 er5 => ?_)
    have p_r5 : P r5.2 := by rw [er5]; exact mf_152_99 hw hm p_m1
    exact p_r5
  · refine qb_inP (P := fun (z : Int32 × qa_S) => P z.2) (fun m6 em6 => ?_)
    have p_m6 : P m6 := by rw [em6]; exact mf_181_99 hw hm p_m1
    refine qb_inP (P := fun (z : Int32 × qa_S) => P z.2) (fun r7 er7 => ?_)
    refine qb_inP (P := fun (z : Int32 × qa_S) => P z.2) (fun r8 er8 => ?_)
    have p_r8 := mg_241_99_p60 hw hm (N := N) (n := N) (l1 := a1) (l3 := r7) (s := ((1 : Int32), (-9 : Int32), (-9 : Int32), m6)) p_m6
    rw [← er8] at p_r8
    refine qb_ifP (P := fun (z : Int32 × qa_S) => P z.2) ?_ ?_
    · exact p_r8
    · refine qb_ifP (P := fun (z : Int32 × qa_S) => P z.2) ?_ ?_
      · exact p_r8
      · refine qb_ifP (P := fun (z : Int32 × qa_S) => P z.2) ?_ ?_
        · refine qb_inP (P := fun (z : Int32 × qa_S) => P z.2) (fun m14 em14 => ?_)
          have p_m14 : P m14 := by rw [em14]; exact mf_196_99 hw hm p_r8
          exact p_m14
        · exact p_r8
theorem mf_242_99 {P : qa_S → Prop} {N : Nat} {σ : qa_S} {a1 : Int32} (hw : ∀ a j, qb_sc a j → ∀ s v, P s → P (qa_u s a j v)) (hm : ∀ s, P s → P (ma_72_3 N s)) (h : P σ) : P (ma_242_99 N a1 σ).2 := by
  unfold ma_242_99
  show (fun (z : Int32 × qa_S) => P z.2) _
  refine qb_inP (P := fun (z : Int32 × qa_S) => P z.2) (fun m1 em1 => ?_)
  have p_m1 : P m1 := by rw [em1]; exact hw _ _ qb_q99 _ _ h
  refine qb_ifP (P := fun (z : Int32 × qa_S) => P z.2) ?_ ?_
  · refine qb_inP (P := fun (z : Int32 × qa_S) => P z.2) (fun r3 er3 => ?_)
    have p_r3 : P r3.2 := by rw [er3]; exact mf_152_99 hw hm p_m1
    exact p_r3
  · refine qb_inP (P := fun (z : Int32 × qa_S) => P z.2) (fun m4 em4 => ?_)
    have p_m4 : P m4 := by rw [em4]; exact mf_181_99 hw hm p_m1
    refine qb_inP (P := fun (z : Int32 × qa_S) => P z.2) (fun r5 er5 => ?_)
    refine qb_csP (P := fun (z : Int32 × qa_S) => P z.2) (fun b6 q => ?_) (fun b6 q => ?_)
    · exact p_m4
    · exact p_m4
theorem mg_243_99_p18 {P : qa_S → Prop} {N n : Nat} {l1 : Int32} {s : Int32 × Int32 × qa_S} (hw : ∀ a j, qb_sc a j → ∀ s v, P s → P (qa_u s a j v)) (hm : ∀ s, P s → P (ma_72_3 N s)) (h : P (s.2.2)) : (fun (b : Int32 × Int32 × qa_S) => P (b.2.2)) (qa_wh (fun s => s) (mc_243_99_p18 N l1) n s) := by
  refine qb_whP (I := (fun (s : Int32 × Int32 × qa_S) => P (s.2.2))) (Q := (fun (b : Int32 × Int32 × qa_S) => P (b.2.2))) (fun s h => h) (fun s h => ?_) n s h
  unfold mc_243_99_p18
  show (fun (x : (Int32 × Int32 × qa_S) ⊕ ((Int32 × Int32 × qa_S))) => qa_cs x (fun (s : Int32 × Int32 × qa_S) => P (s.2.2)) (fun (b : Int32 × Int32 × qa_S) => P (b.2.2))) _
  refine qb_ifP (P := fun (x : (Int32 × Int32 × qa_S) ⊕ ((Int32 × Int32 × qa_S))) => qa_cs x (fun (s : Int32 × Int32 × qa_S) => P (s.2.2)) (fun (b : Int32 × Int32 × qa_S) => P (b.2.2))) ?_ ?_
  · refine qb_inP (P := fun (x : (Int32 × Int32 × qa_S) ⊕ ((Int32 × Int32 × qa_S))) => qa_cs x (fun (s : Int32 × Int32 × qa_S) => P (s.2.2)) (fun (b : Int32 × Int32 × qa_S) => P (b.2.2))) (fun m2 em2 => ?_)
    have p_m2 : P m2 := by rw [em2]; exact mf_196_99 hw hm h
    refine qb_inP (P := fun (x : (Int32 × Int32 × qa_S) ⊕ ((Int32 × Int32 × qa_S))) => qa_cs x (fun (s : Int32 × Int32 × qa_S) => P (s.2.2)) (fun (b : Int32 × Int32 × qa_S) => P (b.2.2))) (fun m3 em3 => ?_)
    have p_m3 : P m3 := by rw [em3]; exact mf_183_99 hw hm p_m2
    refine qb_inP (P := fun (x : (Int32 × Int32 × qa_S) ⊕ ((Int32 × Int32 × qa_S))) => qa_cs x (fun (s : Int32 × Int32 × qa_S) => P (s.2.2)) (fun (b : Int32 × Int32 × qa_S) => P (b.2.2))) (fun r4 er4 => ?_)
    exact p_m3
  · exact h
theorem mf_243_99 {P : qa_S → Prop} {N : Nat} {σ : qa_S} (hw : ∀ a j, qb_sc a j → ∀ s v, P s → P (qa_u s a j v)) (hm : ∀ s, P s → P (ma_72_3 N s)) (h : P σ) : P (ma_243_99 N σ).2 := by
  unfold ma_243_99
  show (fun (z : Int32 × qa_S) => P z.2) _
  refine qb_inP (P := fun (z : Int32 × qa_S) => P z.2) (fun m1 em1 => ?_)
  have p_m1 : P m1 := by rw [em1]; exact hw _ _ qb_q99 _ _ h
  refine qb_inP (P := fun (z : Int32 × qa_S) => P z.2) (fun m2 em2 => ?_)
  have p_m2 : P m2 := by rw [em2]; exact mf_180_99 hw hm p_m1
  refine qb_inP (P := fun (z : Int32 × qa_S) => P z.2) (fun r3 er3 => ?_)
  refine qb_inP (P := fun (z : Int32 × qa_S) => P z.2) (fun r4 er4 => ?_)
  have p_r4 := mg_243_99_p18 hw hm (N := N) (n := N) (l1 := r3) (s := ((1 : Int32), (0 : Int32), m2)) p_m2
  rw [← er4] at p_r4
  exact p_r4
theorem mf_244_99 {P : qa_S → Prop} {N : Nat} {σ : qa_S} {a1 : Int32} {a2 : Int32} (hw : ∀ a j, qb_sc a j → ∀ s v, P s → P (qa_u s a j v)) (hm : ∀ s, P s → P (ma_72_3 N s)) (h : P σ) : P (ma_244_99 N a1 a2 σ).2 := by
  unfold ma_244_99
  show (fun (z : Int32 × qa_S) => P z.2) _
  refine qb_inP (P := fun (z : Int32 × qa_S) => P z.2) (fun m1 em1 => ?_)
  have p_m1 : P m1 := by rw [em1]; exact hw _ _ qb_q99 _ _ h
  refine qb_ifP (P := fun (z : Int32 × qa_S) => P z.2) ?_ ?_
  · refine qb_inP (P := fun (z : Int32 × qa_S) => P z.2) (fun r4 er4 => ?_)
    have p_r4 : P r4.2 := by rw [er4]; exact mf_152_99 hw hm p_m1
    exact p_r4
  · refine qb_inP (P := fun (z : Int32 × qa_S) => P z.2) (fun m5 em5 => ?_)
    have p_m5 : P m5 := by rw [em5]; exact mf_181_99 hw hm p_m1
    refine qb_inP (P := fun (z : Int32 × qa_S) => P z.2) (fun r6 er6 => ?_)
    exact p_m5
theorem mf_245_99 {P : qa_S → Prop} {N : Nat} {σ : qa_S} {a1 : Int32} (hw : ∀ a j, qb_sc a j → ∀ s v, P s → P (qa_u s a j v)) (hm : ∀ s, P s → P (ma_72_3 N s)) (h : P σ) : P (ma_245_99 N a1 σ).2 := by
  unfold ma_245_99
  show (fun (z : Int32 × qa_S) => P z.2) _
  refine qb_inP (P := fun (z : Int32 × qa_S) => P z.2) (fun m1 em1 => ?_)
  have p_m1 : P m1 := by rw [em1]; exact hw _ _ qb_q99 _ _ h
  refine qb_ifP (P := fun (z : Int32 × qa_S) => P z.2) ?_ ?_
  · refine qb_inP (P := fun (z : Int32 × qa_S) => P z.2) (fun r3 er3 => ?_)
    have p_r3 : P r3.2 := by rw [er3]; exact mf_152_99 hw hm p_m1
    exact p_r3
  · refine qb_inP (P := fun (z : Int32 × qa_S) => P z.2) (fun m4 em4 => ?_)
    have p_m4 : P m4 := by rw [em4]; exact mf_181_99 hw hm p_m1
    refine qb_inP (P := fun (z : Int32 × qa_S) => P z.2) (fun r5 er5 => ?_)
    exact p_m4
theorem mf_246_99 {P : qa_S → Prop} {N : Nat} {σ : qa_S} {a1 : Int32} (hw : ∀ a j, qb_sc a j → ∀ s v, P s → P (qa_u s a j v)) (hm : ∀ s, P s → P (ma_72_3 N s)) (h : P σ) : P (ma_246_99 N a1 σ).2 := by
  unfold ma_246_99
  show (fun (z : Int32 × qa_S) => P z.2) _
  refine qb_inP (P := fun (z : Int32 × qa_S) => P z.2) (fun m1 em1 => ?_)
  have p_m1 : P m1 := by rw [em1]; exact hw _ _ qb_q99 _ _ h
  refine qb_ifP (P := fun (z : Int32 × qa_S) => P z.2) ?_ ?_
  · refine qb_inP (P := fun (z : Int32 × qa_S) => P z.2) (fun r3 er3 => ?_)
    have p_r3 : P r3.2 := by rw [er3]; exact mf_152_99 hw hm p_m1
    exact p_r3
  · refine qb_inP (P := fun (z : Int32 × qa_S) => P z.2) (fun m4 em4 => ?_)
    have p_m4 : P m4 := by rw [em4]; exact mf_181_99 hw hm p_m1
    refine qb_inP (P := fun (z : Int32 × qa_S) => P z.2) (fun r5 er5 => ?_)
    exact p_m4
theorem mf_251_99 {P : qa_S → Prop} {N : Nat} {σ : qa_S} {a1 : Int32} (hw : ∀ a j, qb_sc a j → ∀ s v, P s → P (qa_u s a j v)) (hm : ∀ s, P s → P (ma_72_3 N s)) (h : P σ) : P (ma_251_99 N a1 σ).2 := by
  unfold ma_251_99
  show (fun (z : Int32 × qa_S) => P z.2) _
  refine qb_inP (P := fun (z : Int32 × qa_S) => P z.2) (fun m1 em1 => ?_)
  have p_m1 : P m1 := by rw [em1]; exact hw _ _ qb_q99 _ _ h
  refine qb_ifP (P := fun (z : Int32 × qa_S) => P z.2) ?_ ?_
  · exact p_m1
  · refine qb_ifP (P := fun (z : Int32 × qa_S) => P z.2) ?_ ?_
    · exact p_m1
    · refine qb_ifP (P := fun (z : Int32 × qa_S) => P z.2) ?_ ?_
      · refine qb_inP (P := fun (z : Int32 × qa_S) => P z.2) (fun r9 er9 => ?_)
        exact p_m1
      · refine qb_ifP (P := fun (z : Int32 × qa_S) => P z.2) ?_ ?_
        · refine qb_inP (P := fun (z : Int32 × qa_S) => P z.2) (fun r10 er10 => ?_)
          exact p_m1
        · refine qb_ifP (P := fun (z : Int32 × qa_S) => P z.2) ?_ ?_
          · exact p_m1
          · refine qb_ifP (P := fun (z : Int32 × qa_S) => P z.2) ?_ ?_
            · exact p_m1
            · refine qb_ifP (P := fun (z : Int32 × qa_S) => P z.2) ?_ ?_
              · exact p_m1
              · exact p_m1
