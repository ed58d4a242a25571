/-! the reference reads statements -/
theorem qd_e2 {n : Nat} {X : Nat → Int32} {c d a a1 a2 : Nat} {b1 b2 : Bool} {r0 r1 : Int32} (T0 : qd_T X n c a false a1 b1 r0) (T1 : qd_T X n d a1 b1 a2 b2 r1) : (∀ p, q9b_f (fun i => (X i).toInt) n (c + d) a = some p → a2 = p ∧ b2 = true) ∧ (q9b_f (fun i => (X i).toInt) n (c + d) a = none → a2 = a + c + d ∧ b2 = false ∧ r0 = q9b_v X c a 0 ∧ r1 = q9b_v X d (a + c) 0) := by
  obtain ⟨-, T0⟩ := T0
  obtain ⟨T0n, T0s⟩ := T0 rfl
  rw [q9c_add]
  cases h : q9b_f (fun i => (X i).toInt) n c a with
  | some p =>
    obtain ⟨e1, e2⟩ := T0s p h
    subst e1
    obtain ⟨e3, e4⟩ := T1.1 e2
    refine ⟨fun q hq => ?_, fun hq => (by cases hq)⟩
    cases hq
    exact ⟨e3, e4⟩
  | none =>
    obtain ⟨e1, e2, e3⟩ := T0n h
    subst e1
    obtain ⟨T1n, T1s⟩ := T1.2 e2
    refine ⟨fun q hq => T1s q hq, fun hq => ?_⟩
    obtain ⟨f1, f2, f3⟩ := T1n hq
    exact ⟨f1, f2, e3, f3⟩
theorem qd_e3 {n : Nat} {X : Nat → Int32} {c d e a a1 a2 a3 : Nat} {b1 b2 b3 : Bool} {r0 r1 r2 : Int32} (T0 : qd_T X n c a false a1 b1 r0) (T1 : qd_T X n d a1 b1 a2 b2 r1) (T2 : qd_T X n e a2 b2 a3 b3 r2) : (∀ p, q9b_f (fun i => (X i).toInt) n (c + d + e) a = some p → a3 = p ∧ b3 = true) ∧ (q9b_f (fun i => (X i).toInt) n (c + d + e) a = none → a3 = a + c + d + e ∧ b3 = false ∧ r0 = q9b_v X c a 0 ∧ r1 = q9b_v X d (a + c) 0 ∧ r2 = q9b_v X e (a + c + d) 0) := by
  obtain ⟨U1, U2⟩ := qd_e2 T0 T1
  rw [q9c_add]
  cases h : q9b_f (fun i => (X i).toInt) n (c + d) a with
  | some p =>
    obtain ⟨e1, e2⟩ := U1 p h
    subst e1
    obtain ⟨e3, e4⟩ := T2.1 e2
    refine ⟨fun q hq => ?_, fun hq => (by cases hq)⟩
    cases hq
    exact ⟨e3, e4⟩
  | none =>
    obtain ⟨e1, e2, e3, e4⟩ := U2 h
    subst e1
    obtain ⟨T2n, T2s⟩ := T2.2 e2
    rw [show a + (c + d) = a + c + d by omega]
    refine ⟨fun q hq => T2s q hq, fun hq => ?_⟩
    obtain ⟨f1, f2, f3⟩ := T2n hq
    exact ⟨f1, f2, e3, e4, f3⟩
/-- the numbers told by the statement at a -/
def qd_n (X : Nat → Int32) (d a : Nat) : Int32 := q9b_v X d a 0
/-- the numbers told by the statement at a -/
def qd_V (X : Nat → Int32) (σ : qa_S) (a j : Nat) : Prop :=
  ((X a).toInt = 99 → σ 116 j = qd_n X 1 (a + 1) ∧ σ 116 (j + 1) = qd_n X 1 (a + 2) ∧ σ 116 (j + 2) = qd_n X 4 (a + 3)) ∧
  ((X a).toInt = 115 → σ 116 j = qd_n X 1 (a + 1) ∧ σ 116 (j + 1) = qd_n X 1 (a + 2)) ∧
  ((X a).toInt = 116 → σ 116 j = qd_n X 2 (a + 1) ∧ σ 116 (j + 1) = qd_n X 1 (a + 3) ∧ σ 116 (j + 2) = qd_n X 1 (a + 4)) ∧
  ((X a).toInt = 109 → σ 116 j = qd_n X 1 (a + 1) ∧ σ 116 (j + 1) = qd_n X 1 (a + 2) ∧ σ 116 (j + 2) = qd_n X 1 (a + 3))
theorem qb_s2 {k : Nat} : nI k + (2 : Int32) = nI (k + 2) := (Int32.ofNat_add k 2).symm
theorem qb_m3 {k : Nat} : (3 : Int32) * nI k = nI (3 * k) := (Int32.ofNat_mul 3 k).symm
section W65C
variable {X : Nat → Int32} {n : Nat} {σ : qa_S}
/-- a number is read and put down -/
theorem qd_ph {N c a J : Nat} {b : Bool} (hN : 5000 ≤ N) (hn : n ≤ 96) (hc : c ≤ 4) (hS : qd_S X n σ a b) : ∃ a1 b1 r τ, τ = qa_u (ma_157_99 N (nI c) σ).2 116 J (ma_157_99 N (nI c) σ).1 ∧ qd_S X n τ a1 b1 ∧ qd_T X n c a b a1 b1 r ∧ τ 116 J = r ∧ (∀ i, i ≠ J → τ 116 i = σ 116 i) ∧ qb_F (fun a j => (a = 99 ∧ (j = 18 ∨ j = 19)) ∨ a = 116) σ τ := by
  obtain ⟨a1, b1, h1, h2, h3⟩ := qd_157 hN hn hc hS
  refine ⟨a1, b1, _, _, rfl, qd_SF (w := fun a _ => a = 116) (fun a j h => qb_uA h) ⟨by omega, by omega, by omega, fun i => by omega⟩ h1, h2, qb_uE, fun i hi => ?_, fun x y h => ?_⟩
  · rw [qb_uN (Or.inr hi), h3 116 i (by omega)]
  · rw [qb_uN (by omega), h3 x y (by omega)]
theorem qd_lb {x : Int32} : (x.toInt = 99 ∧ x = 99 ∧ q9a_lb x.toInt = 7) ∨ (x.toInt = 115 ∧ x = 115 ∧ q9a_lb x.toInt = 3) ∨ (x.toInt = 116 ∧ x = 116 ∧ q9a_lb x.toInt = 5) ∨ (x.toInt = 109 ∧ x = 109 ∧ q9a_lb x.toInt = 4) ∨ (q9a_lb x.toInt = 0 ∧ x ≠ 99 ∧ x ≠ 115 ∧ x ≠ 116 ∧ x ≠ 109) := by
  have e : ∀ z : Int32, ∀ v : Int, z.toInt = v → x.toInt = v → x = z := fun z v h1 h2 => Int32.toInt_inj.mp (h2.trans h1.symm)
  have e' : ∀ z : Int32, ∀ v : Int, z.toInt = v → x.toInt ≠ v → x ≠ z := fun z v h1 h2 h3 => h2 (by rw [h3]; exact h1)
  by_cases h1 : x.toInt = 99
  · exact Or.inl ⟨h1, e 99 99 (by decide) h1, by rw [h1]; rfl⟩
  by_cases h2 : x.toInt = 115
  · exact Or.inr (Or.inl ⟨h2, e 115 115 (by decide) h2, by rw [h2]; rfl⟩)
  by_cases h3 : x.toInt = 116
  · exact Or.inr (Or.inr (Or.inl ⟨h3, e 116 116 (by decide) h3, by rw [h3]; rfl⟩))
  by_cases h4 : x.toInt = 109
  · exact Or.inr (Or.inr (Or.inr (Or.inl ⟨h4, e 109 109 (by decide) h4, by rw [h4]; rfl⟩)))
  refine Or.inr (Or.inr (Or.inr (Or.inr ⟨?_, e' 99 99 (by decide) h1, e' 115 115 (by decide) h2, e' 116 116 (by decide) h3, e' 109 109 (by decide) h4⟩)))
  unfold q9a_lb
  rw [if_neg h1, if_neg h4, if_neg h2, if_neg h3]
theorem qd_156_99 {N a j : Nat} (hN : 5000 ≤ N) (hn : n ≤ 96) (hj : j < 1000) (hS : qd_S X n σ (a + 1) false) (hx : (X a).toInt = 99) : ∃ a1 b1, qd_S X n (ma_156_99 N 99 (nI j) σ) a1 b1 ∧ (∀ p, q9b_f (fun i => (X i).toInt) n 6 (a + 1) = some p → a1 = p ∧ b1 = true) ∧ (q9b_f (fun i => (X i).toInt) n 6 (a + 1) = none → a1 = a + 7 ∧ b1 = false ∧ qd_V X (ma_156_99 N 99 (nI j) σ) a j) ∧ qb_F (fun a j => (a = 99 ∧ (j = 18 ∨ j = 19)) ∨ a = 116) σ (ma_156_99 N 99 (nI j) σ) ∧ (∀ i, i < j → ma_156_99 N 99 (nI j) σ 116 i = σ 116 i) := by
  unfold ma_156_99
  dsimp only [qa_in]
  rw [if_neg (show ¬ (99 : Int32) = 116 by decide), if_pos (show (99 : Int32) = 99 from rfl), if_neg (show ¬ (99 : Int32) = 115 by decide), qb_s, qb_s2, qb_n (k := j) (by omega), qb_n (k := j + 1) (by omega), qb_n (k := j + 2) (by omega)]
  obtain ⟨a0, b0, r0, t0, e0, S0, T0, p0, u0, f0⟩ := qd_ph (N := N) (c := 1) (J := j) hN hn (by omega) hS
  have e0 : t0 = qa_u (ma_157_99 N (1 : Int32) σ).2 116 (j) (ma_157_99 N (1 : Int32) σ).1 := e0
  rw [← e0]
  obtain ⟨a1, b1, r1, t1, e1, S1, T1, p1, u1, f1⟩ := qd_ph (N := N) (c := 1) (J := j + 1) hN hn (by omega) S0
  have e1 : t1 = qa_u (ma_157_99 N (1 : Int32) t0).2 116 (j + 1) (ma_157_99 N (1 : Int32) t0).1 := e1
  rw [← e1]
  obtain ⟨a2, b2, r2, t2, e2, S2, T2, p2, u2, f2⟩ := qd_ph (N := N) (c := 4) (J := j + 2) hN hn (by omega) S1
  have e2 : t2 = qa_u (ma_157_99 N (4 : Int32) t1).2 116 (j + 2) (ma_157_99 N (4 : Int32) t1).1 := e2
  rw [← e2]
  obtain ⟨U1, U2⟩ := qd_e3 T0 T1 T2
  refine ⟨a2, b2, S2, U1, fun h => ?_, qb_Ft (qb_Ft f0 f1 (fun _ _ h => h) (fun _ _ h => h)) f2 (fun _ _ h => h) (fun _ _ h => h), fun i hi => by rw [u2 i (by omega), u1 i (by omega), u0 i (by omega)]⟩
  obtain ⟨v1, v2, v3, v4, v5⟩ := U2 h
  refine ⟨by omega, v2, ?_⟩
  have q0 : t2 116 j = r0 := by rw [u2 j (by omega), u1 j (by omega)]; exact p0
  have q1 : t2 116 (j + 1) = r1 := by rw [u2 (j + 1) (by omega)]; exact p1
  exact ⟨fun _ => ⟨q0.trans v3, q1.trans v4, p2.trans v5⟩, fun c => absurd (hx.symm.trans c) (by decide), fun c => absurd (hx.symm.trans c) (by decide), fun c => absurd (hx.symm.trans c) (by decide)⟩
theorem qd_156_115 {N a j : Nat} (hN : 5000 ≤ N) (hn : n ≤ 96) (hj : j < 1000) (hS : qd_S X n σ (a + 1) false) (hx : (X a).toInt = 115) : ∃ a1 b1, qd_S X n (ma_156_99 N 115 (nI j) σ) a1 b1 ∧ (∀ p, q9b_f (fun i => (X i).toInt) n 2 (a + 1) = some p → a1 = p ∧ b1 = true) ∧ (q9b_f (fun i => (X i).toInt) n 2 (a + 1) = none → a1 = a + 3 ∧ b1 = false ∧ qd_V X (ma_156_99 N 115 (nI j) σ) a j) ∧ qb_F (fun a j => (a = 99 ∧ (j = 18 ∨ j = 19)) ∨ a = 116) σ (ma_156_99 N 115 (nI j) σ) ∧ (∀ i, i < j → ma_156_99 N 115 (nI j) σ 116 i = σ 116 i) := by
  unfold ma_156_99
  dsimp only [qa_in]
  rw [if_neg (show ¬ (115 : Int32) = 116 by decide), if_neg (show ¬ (115 : Int32) = 99 by decide), if_pos (show (115 : Int32) = 115 from rfl), qb_s, qb_n (k := j) (by omega), qb_n (k := j + 1) (by omega)]
  obtain ⟨a0, b0, r0, t0, e0, S0, T0, p0, u0, f0⟩ := qd_ph (N := N) (c := 1) (J := j) hN hn (by omega) hS
  have e0 : t0 = qa_u (ma_157_99 N (1 : Int32) σ).2 116 (j) (ma_157_99 N (1 : Int32) σ).1 := e0
  rw [← e0]
  obtain ⟨a1, b1, r1, t1, e1, S1, T1, p1, u1, f1⟩ := qd_ph (N := N) (c := 1) (J := j + 1) hN hn (by omega) S0
  have e1 : t1 = qa_u (ma_157_99 N (1 : Int32) t0).2 116 (j + 1) (ma_157_99 N (1 : Int32) t0).1 := e1
  rw [← e1]
  obtain ⟨U1, U2⟩ := qd_e2 T0 T1
  refine ⟨a1, b1, S1, U1, fun h => ?_, qb_Ft f0 f1 (fun _ _ h => h) (fun _ _ h => h), fun i hi => by rw [u1 i (by omega), u0 i (by omega)]⟩
  obtain ⟨v1, v2, v3, v4⟩ := U2 h
  refine ⟨by omega, v2, ?_⟩
  have q0 : t1 116 j = r0 := by rw [u1 j (by omega)]; exact p0
  refine ⟨fun c => absurd (hx.symm.trans c) (by decide), fun _ => ⟨q0.trans v3, p1.trans v4⟩, fun c => absurd (hx.symm.trans c) (by decide), fun c => absurd (hx.symm.trans c) (by decide)⟩
theorem qd_156_116 {N a j : Nat} (hN : 5000 ≤ N) (hn : n ≤ 96) (hj : j < 1000) (hS : qd_S X n σ (a + 1) false) (hx : (X a).toInt = 116) : ∃ a1 b1, qd_S X n (ma_156_99 N 116 (nI j) σ) a1 b1 ∧ (∀ p, q9b_f (fun i => (X i).toInt) n 4 (a + 1) = some p → a1 = p ∧ b1 = true) ∧ (q9b_f (fun i => (X i).toInt) n 4 (a + 1) = none → a1 = a + 5 ∧ b1 = false ∧ qd_V X (ma_156_99 N 116 (nI j) σ) a j) ∧ qb_F (fun a j => (a = 99 ∧ (j = 18 ∨ j = 19)) ∨ a = 116) σ (ma_156_99 N 116 (nI j) σ) ∧ (∀ i, i < j → ma_156_99 N 116 (nI j) σ 116 i = σ 116 i) := by
  unfold ma_156_99
  dsimp only [qa_in]
  rw [if_pos (show (116 : Int32) = 116 from rfl), if_neg (show ¬ (116 : Int32) = 99 by decide), if_neg (show ¬ (116 : Int32) = 115 by decide), qb_s, qb_s2, qb_n (k := j) (by omega), qb_n (k := j + 1) (by omega), qb_n (k := j + 2) (by omega)]
  obtain ⟨a0, b0, r0, t0, e0, S0, T0, p0, u0, f0⟩ := qd_ph (N := N) (c := 2) (J := j) hN hn (by omega) hS
  have e0 : t0 = qa_u (ma_157_99 N (2 : Int32) σ).2 116 (j) (ma_157_99 N (2 : Int32) σ).1 := e0
  rw [← e0]
  obtain ⟨a1, b1, r1, t1, e1, S1, T1, p1, u1, f1⟩ := qd_ph (N := N) (c := 1) (J := j + 1) hN hn (by omega) S0
  have e1 : t1 = qa_u (ma_157_99 N (1 : Int32) t0).2 116 (j + 1) (ma_157_99 N (1 : Int32) t0).1 := e1
  rw [← e1]
  obtain ⟨a2, b2, r2, t2, e2, S2, T2, p2, u2, f2⟩ := qd_ph (N := N) (c := 1) (J := j + 2) hN hn (by omega) S1
  have e2 : t2 = qa_u (ma_157_99 N (1 : Int32) t1).2 116 (j + 2) (ma_157_99 N (1 : Int32) t1).1 := e2
  rw [← e2]
  obtain ⟨U1, U2⟩ := qd_e3 T0 T1 T2
  refine ⟨a2, b2, S2, U1, fun h => ?_, qb_Ft (qb_Ft f0 f1 (fun _ _ h => h) (fun _ _ h => h)) f2 (fun _ _ h => h) (fun _ _ h => h), fun i hi => by rw [u2 i (by omega), u1 i (by omega), u0 i (by omega)]⟩
  obtain ⟨v1, v2, v3, v4, v5⟩ := U2 h
  refine ⟨by omega, v2, ?_⟩
  have q0 : t2 116 j = r0 := by rw [u2 j (by omega), u1 j (by omega)]; exact p0
  have q1 : t2 116 (j + 1) = r1 := by rw [u2 (j + 1) (by omega)]; exact p1
  exact ⟨fun c => absurd (hx.symm.trans c) (by decide), fun c => absurd (hx.symm.trans c) (by decide), fun _ => ⟨q0.trans v3, q1.trans v4, p2.trans v5⟩, fun c => absurd (hx.symm.trans c) (by decide)⟩
theorem qd_156_109 {N a j : Nat} (hN : 5000 ≤ N) (hn : n ≤ 96) (hj : j < 1000) (hS : qd_S X n σ (a + 1) false) (hx : (X a).toInt = 109) : ∃ a1 b1, qd_S X n (ma_156_99 N 109 (nI j) σ) a1 b1 ∧ (∀ p, q9b_f (fun i => (X i).toInt) n 3 (a + 1) = some p → a1 = p ∧ b1 = true) ∧ (q9b_f (fun i => (X i).toInt) n 3 (a + 1) = none → a1 = a + 4 ∧ b1 = false ∧ qd_V X (ma_156_99 N 109 (nI j) σ) a j) ∧ qb_F (fun a j => (a = 99 ∧ (j = 18 ∨ j = 19)) ∨ a = 116) σ (ma_156_99 N 109 (nI j) σ) ∧ (∀ i, i < j → ma_156_99 N 109 (nI j) σ 116 i = σ 116 i) := by
  unfold ma_156_99
  dsimp only [qa_in]
  rw [if_neg (show ¬ (109 : Int32) = 116 by decide), if_neg (show ¬ (109 : Int32) = 99 by decide), if_neg (show ¬ (109 : Int32) = 115 by decide), qb_s, qb_s2, qb_n (k := j) (by omega), qb_n (k := j + 1) (by omega), qb_n (k := j + 2) (by omega)]
  obtain ⟨a0, b0, r0, t0, e0, S0, T0, p0, u0, f0⟩ := qd_ph (N := N) (c := 1) (J := j) hN hn (by omega) hS
  have e0 : t0 = qa_u (ma_157_99 N (1 : Int32) σ).2 116 (j) (ma_157_99 N (1 : Int32) σ).1 := e0
  rw [← e0]
  obtain ⟨a1, b1, r1, t1, e1, S1, T1, p1, u1, f1⟩ := qd_ph (N := N) (c := 1) (J := j + 1) hN hn (by omega) S0
  have e1 : t1 = qa_u (ma_157_99 N (1 : Int32) t0).2 116 (j + 1) (ma_157_99 N (1 : Int32) t0).1 := e1
  rw [← e1]
  obtain ⟨a2, b2, r2, t2, e2, S2, T2, p2, u2, f2⟩ := qd_ph (N := N) (c := 1) (J := j + 2) hN hn (by omega) S1
  have e2 : t2 = qa_u (ma_157_99 N (1 : Int32) t1).2 116 (j + 2) (ma_157_99 N (1 : Int32) t1).1 := e2
  rw [← e2]
  obtain ⟨U1, U2⟩ := qd_e3 T0 T1 T2
  refine ⟨a2, b2, S2, U1, fun h => ?_, qb_Ft (qb_Ft f0 f1 (fun _ _ h => h) (fun _ _ h => h)) f2 (fun _ _ h => h) (fun _ _ h => h), fun i hi => by rw [u2 i (by omega), u1 i (by omega), u0 i (by omega)]⟩
  obtain ⟨v1, v2, v3, v4, v5⟩ := U2 h
  refine ⟨by omega, v2, ?_⟩
  have q0 : t2 116 j = r0 := by rw [u2 j (by omega), u1 j (by omega)]; exact p0
  have q1 : t2 116 (j + 1) = r1 := by rw [u2 (j + 1) (by omega)]; exact p1
  exact ⟨fun c => absurd (hx.symm.trans c) (by decide), fun c => absurd (hx.symm.trans c) (by decide), fun c => absurd (hx.symm.trans c) (by decide), fun _ => ⟨q0.trans v3, q1.trans v4, p2.trans v5⟩⟩
theorem qd_VF {w : Nat → Nat → Prop} {τ : qa_S} {a j : Nat} (h : qb_F w σ τ) (hw : ∀ i, i < 3 → ¬ w 116 (j + i)) (hV : qd_V X σ a j) : qd_V X τ a j := by
  have e0 := h 116 j (hw 0 (by omega))
  have e1 := h 116 (j + 1) (hw 1 (by omega))
  have e2 := h 116 (j + 2) (hw 2 (by omega))
  unfold qd_V
  rw [e0, e1, e2]
  exact hV
/-- numbers of a statement with any letter -/
theorem qd_156 {N a j : Nat} (hN : 5000 ≤ N) (hn : n ≤ 96) (hj : j < 1000) (hS : qd_S X n σ (a + 1) false) (hl : q9a_lb (X a).toInt ≠ 0) : ∃ a1 b1, qd_S X n (ma_156_99 N (X a) (nI j) σ) a1 b1 ∧ (∀ p, q9b_f (fun i => (X i).toInt) n (q9a_lb (X a).toInt - 1) (a + 1) = some p → a1 = p ∧ b1 = true) ∧ (q9b_f (fun i => (X i).toInt) n (q9a_lb (X a).toInt - 1) (a + 1) = none → a1 = a + q9a_lb (X a).toInt ∧ b1 = false ∧ qd_V X (ma_156_99 N (X a) (nI j) σ) a j) ∧ qb_F (fun a j => (a = 99 ∧ (j = 18 ∨ j = 19)) ∨ a = 116) σ (ma_156_99 N (X a) (nI j) σ) ∧ (∀ i, i < j → ma_156_99 N (X a) (nI j) σ 116 i = σ 116 i) := by
  rcases qd_lb (x := X a) with ⟨h, e, l⟩ | ⟨h, e, l⟩ | ⟨h, e, l⟩ | ⟨h, e, l⟩ | ⟨l, -⟩
  · rw [l, e]; exact qd_156_99 hN hn hj hS h
  · rw [l, e]; exact qd_156_115 hN hn hj hS h
  · rw [l, e]; exact qd_156_116 hN hn hj hS h
  · rw [l, e]; exact qd_156_109 hN hn hj hS h
  · exact absurd l hl
/-- the head and the tail of reading a statement -/
noncomputable def qd_hd (σ : qa_S) : qa_S :=
  qa_in (qa_u σ 114 (σ 99 20).toNatClampNeg (σ 99 18)) fun m1 =>
  qa_in (qa_u m1 115 (σ 99 20).toNatClampNeg (ma_155_99 σ)) fun m2 =>
  qa_in (qa_u m2 99 19 (if (m2 99 19) = (0 : Int32) then (if (ma_155_99 σ) = (99 : Int32) then (0 : Int32) else (if (ma_155_99 σ) = (115 : Int32) then (0 : Int32) else (if (ma_155_99 σ) = (116 : Int32) then (0 : Int32) else (if (ma_155_99 σ) = (109 : Int32) then (0 : Int32) else (1 : Int32))))) else (1 : Int32))) fun m8 =>
  qa_u m8 99 18 ((m8 99 18) + (if (m8 99 19) = (0 : Int32) then (1 : Int32) else (0 : Int32)))
noncomputable def qd_tl (ρ : qa_S) : qa_S :=
  qa_in (qa_u ρ 99 19 (if (ρ 99 19) = (0 : Int32) then (if (ma_155_99 ρ) = (59 : Int32) then (0 : Int32) else (1 : Int32)) else (1 : Int32))) fun m16 =>
  qa_in (qa_u m16 99 18 ((m16 99 18) + (if (m16 99 19) = (0 : Int32) then (1 : Int32) else (0 : Int32)))) fun m18 =>
  qa_u m18 99 20 ((m18 99 20) + (1 : Int32))
theorem qd_154e {N : Nat} : ma_154_99 N σ = qd_tl (if (qd_hd σ) 99 19 = 0 then ma_156_99 N (ma_155_99 σ) ((3 : Int32) * (σ 99 20)) (qd_hd σ) else qd_hd σ) := rfl
theorem qd_59 {a : Nat} : q9b_h X n a = 59 ↔ (a < n ∧ (X a).toInt = 59) := by
  unfold q9b_h
  by_cases e : a < n
  · rw [if_pos e, ← Int32.toInt_inj, show (59 : Int32).toInt = 59 by decide]; exact ⟨fun h => ⟨e, h⟩, fun h => h.2⟩
  · rw [if_neg e]; exact ⟨fun h => absurd h (by decide), fun h => absurd h.1 e⟩
theorem qd_tlS {a s : Nat} {b : Bool} (hn : n ≤ 96) (hS : qd_S X n σ a b) (h20 : σ 99 20 = nI s) : (b = true → qd_S X n (qd_tl σ) a true) ∧ (b = false → (a < n ∧ (X a).toInt = 59 → qd_S X n (qd_tl σ) (a + 1) false) ∧ (¬ (a < n ∧ (X a).toInt = 59) → qd_S X n (qd_tl σ) a true)) ∧ qd_tl σ 99 20 = nI (s + 1) ∧ qb_F (fun a j => a = 99 ∧ (j = 18 ∨ j = 19 ∨ j = 20)) σ (qd_tl σ) := by
  have r18 := hS.2.2.1
  have r19 := hS.2.2.2.1
  have r5 := hS.2.2.2.2
  unfold qd_tl
  dsimp only [qa_in]
  rw [qd_155 hn hS]
  obtain ⟨v, ev⟩ : ∃ v, v = (if σ 99 19 = 0 then (if q9b_h X n a = 59 then (0 : Int32) else 1) else 1) := ⟨_, rfl⟩
  rw [← ev, show qa_u σ 99 19 v 99 18 = nI a by rw [qb_uN (by omega)]; exact r18, show qa_u σ 99 19 v 99 19 = v from qb_uE, show qa_u (qa_u σ 99 19 v) 99 18 (nI a + (if v = 0 then (1 : Int32) else 0)) 99 20 = nI s by rw [qb_uN (by omega), qb_uN (by omega)]; exact h20, qb_s]
  have key : ∀ (b' : Bool) (a' : Nat), v = nI (bif b' then 1 else 0) → (b' = true → a' = a) → (b' = false → a' = a + 1) → a' ≤ n → qd_S X n (qa_u (qa_u (qa_u σ 99 19 v) 99 18 (nI a + (if v = 0 then (1 : Int32) else 0))) 99 20 (nI (s + 1))) a' b' := by
    intro b' a' hv h1 h2 h3
    refine qd_SF (w := fun a j => a = 99 ∧ j = 20) (fun u v h => qb_uN (by omega)) ⟨by omega, by omega, by omega, fun i => by omega⟩ (qd_Sw hS hv ?_ h3)
    rw [hv]
    cases b' with
    | true => rw [h1 rfl]; exact (congrArg (nI a + ·) (if_neg (show ¬ nI 1 = (0 : Int32) by decide))).trans qd_nx
    | false => rw [h2 rfl]; exact (congrArg (nI a + ·) (if_pos (show nI 0 = (0 : Int32) from rfl))).trans qb_s
  refine ⟨fun hb => ?_, fun hb => ⟨fun h => ?_, fun h => ?_⟩, qb_uE, fun u w h => by rw [qb_uN (by omega), qb_uN (by omega), qb_uN (by omega)]⟩
  · rw [hb] at r19
    exact key true a (by rw [ev, if_neg (by rw [r19]; decide)]; rfl) (fun _ => rfl) (fun h => (nomatch h)) r5
  · rw [hb] at r19
    exact key false (a + 1) (by rw [ev, if_pos (by rw [r19]; rfl), if_pos (qd_59.mpr h)]; rfl) (fun h => (nomatch h)) (fun _ => rfl) (by omega)
  · rw [hb] at r19
    exact key true a (by rw [ev, if_pos (by rw [r19]; rfl), if_neg (fun c => h (qd_59.mp c))]; rfl) (fun _ => rfl) (fun h => (nomatch h)) r5
theorem qd_hdS {a s : Nat} (hn : n ≤ 96) (hs : s ≤ 24) (hS : qd_S X n σ a false) (h20 : σ 99 20 = nI s) : (q9a_lb (q9b_h X n a).toInt = 0 → qd_S X n (qd_hd σ) a true) ∧ (q9a_lb (q9b_h X n a).toInt ≠ 0 → a < n ∧ qd_S X n (qd_hd σ) (a + 1) false) ∧ qd_hd σ 114 s = nI a ∧ qd_hd σ 115 s = q9b_h X n a ∧ qb_F (fun a j => (a = 99 ∧ (j = 18 ∨ j = 19)) ∨ ((a = 114 ∨ a = 115) ∧ j = s)) σ (qd_hd σ) := by
  have s18 := hS.2.2.1
  have s19 : σ 99 19 = 0 := hS.2.2.2.1
  have s5 := hS.2.2.2.2
  unfold qd_hd
  dsimp only [qa_in]
  rw [qd_155 hn hS, h20, s18, qb_n (k := s) (by omega)]
  obtain ⟨x, ex⟩ : ∃ x, x = q9b_h X n a := ⟨_, rfl⟩
  rw [← ex]
  obtain ⟨m2, em2⟩ : ∃ m, m = qa_u (qa_u σ 114 s (nI a)) 115 s x := ⟨_, rfl⟩
  rw [← em2]
  have F2 : qb_F (fun a j => (a = 114 ∨ a = 115) ∧ j = s) σ m2 := fun u v h => by rw [em2, qb_uN (by omega), qb_uN (by omega)]
  have S2 : qd_S X n m2 a false := qd_SF F2 ⟨by omega, by omega, by omega, fun i => by omega⟩ hS
  have z19 : m2 99 19 = 0 := (F2 99 19 (by omega)).trans s19
  rw [if_pos z19]
  obtain ⟨v, ev⟩ : ∃ v, v = (if x = 99 then (0 : Int32) else if x = 115 then 0 else if x = 116 then 0 else if x = 109 then 0 else 1) := ⟨_, rfl⟩
  rw [← ev, show qa_u m2 99 19 v 99 18 = nI a by rw [qb_uN (by omega)]; exact S2.2.2.1, show qa_u m2 99 19 v 99 19 = v from qb_uE]
  have hv : (q9a_lb x.toInt = 0 → v = 1) ∧ (q9a_lb x.toInt ≠ 0 → v = 0) := by
    rw [ev]
    rcases qd_lb (x := x) with ⟨-, e, l⟩ | ⟨-, e, l⟩ | ⟨-, e, l⟩ | ⟨-, e, l⟩ | ⟨l, l1, l2, l3, l4⟩
    · rw [l, e]; exact ⟨fun h => by omega, fun _ => rfl⟩
    · rw [l, e]; exact ⟨fun h => by omega, fun _ => rfl⟩
    · rw [l, e]; exact ⟨fun h => by omega, fun _ => rfl⟩
    · rw [l, e]; exact ⟨fun h => by omega, fun _ => rfl⟩
    · rw [if_neg l1, if_neg l2, if_neg l3, if_neg l4]; exact ⟨fun _ => rfl, fun h => absurd l h⟩
  refine ⟨fun hl => ?_, fun hl => ?_, ?_, ?_, fun u w h => by rw [qb_uN (by omega), qb_uN (by omega)]; exact F2 u w (by omega)⟩
  · rw [hv.1 hl, if_neg (show ¬ (1 : Int32) = 0 by decide), qd_nx]
    exact qd_Sw S2 rfl rfl s5
  · have han : a < n := by
      refine Decidable.byContradiction (fun c => hl ?_)
      rw [ex]
      unfold q9b_h
      rw [if_neg c]
      decide
    rw [hv.2 hl, if_pos rfl, qb_s]
    exact ⟨han, qd_Sw S2 rfl rfl (by omega)⟩
  · rw [qb_uN (by omega), qb_uN (by omega), em2, qb_uN (by omega), qb_uE]
  · rw [qb_uN (by omega), qb_uN (by omega), em2, qb_uE]
/-- a statement is read -/
theorem qd_154 {N a s : Nat} (hN : 5000 ≤ N) (hn : n ≤ 96) (hs : s ≤ 24) (h20 : σ 99 20 = nI s) (hS : qd_S X n σ a false) : (∀ p, q9d_e X n a = some p → qd_S X n (ma_154_99 N σ) p true) ∧ (q9d_e X n a = none → a < n ∧ qd_S X n (ma_154_99 N σ) (a + 1 + q9a_lb (X a).toInt) false ∧ qd_V X (ma_154_99 N σ) a (3 * s)) ∧ ma_154_99 N σ 99 20 = nI (s + 1) ∧ ma_154_99 N σ 114 s = nI a ∧ ma_154_99 N σ 115 s = q9b_h X n a ∧ qb_F (fun a j => (a = 99 ∧ (j = 18 ∨ j = 19 ∨ j = 20)) ∨ ((a = 114 ∨ a = 115) ∧ j = s) ∨ a = 116) σ (ma_154_99 N σ) ∧ (∀ i, i < 3 * s → ma_154_99 N σ 116 i = σ 116 i) := by
  obtain ⟨h1, h2, h3, h4, h5⟩ := qd_hdS hn hs hS h20
  rw [qd_154e]
  have d20 : qd_hd σ 99 20 = nI s := (h5 99 20 (by omega)).trans h20
  by_cases hl : q9a_lb (q9b_h X n a).toInt = 0
  · have hS1 := h1 hl
    rw [if_neg (show ¬ qd_hd σ 99 19 = 0 by rw [hS1.2.2.2.1]; decide)]
    obtain ⟨t1, -, t3, t4⟩ := qd_tlS hn hS1 d20
    have he : q9d_e X n a = some a := if_pos hl
    refine ⟨fun p hp => ?_, fun hp => (by rw [he] at hp; cases hp), t3, ?_, ?_, qb_Ft h5 t4 (fun _ _ h => by omega) (fun _ _ h => by omega), fun i hi => ?_⟩
    · rw [he] at hp
      rw [← Option.some.inj hp]
      exact t1 rfl
    · rw [t4 114 s (by omega)]; exact h3
    · rw [t4 115 s (by omega)]; exact h4
    · rw [t4 116 i (by omega)]; exact h5 116 i (by omega)
  · obtain ⟨han, hS1⟩ := h2 hl
    have eX : q9b_h X n a = X a := if_pos han
    rw [if_pos (show qd_hd σ 99 19 = 0 from hS1.2.2.2.1), qd_155 hn hS, h20, qb_m3, eX]
    rw [eX] at hl h4
    obtain ⟨a1, b1, g1, g2, g3, g4, g5⟩ := qd_156 (N := N) (j := 3 * s) hN hn (by omega) hS1 hl
    have e20 : ma_156_99 N (X a) (nI (3 * s)) (qd_hd σ) 99 20 = nI s := (g4 99 20 (by omega)).trans d20
    obtain ⟨t1, t2, t3, t4⟩ := qd_tlS hn g1 e20
    have F : qb_F (fun a j => (a = 99 ∧ (j = 18 ∨ j = 19 ∨ j = 20)) ∨ ((a = 114 ∨ a = 115) ∧ j = s) ∨ a = 116) σ (qd_tl (ma_156_99 N (X a) (nI (3 * s)) (qd_hd σ))) := qb_Ft h5 (qb_Ft g4 t4 (w := fun a j => (a = 99 ∧ (j = 18 ∨ j = 19 ∨ j = 20)) ∨ a = 116) (fun _ _ h => by omega) (fun _ _ h => by omega)) (fun _ _ h => by omega) (fun _ _ h => by omega)
    have rest : qd_tl (ma_156_99 N (X a) (nI (3 * s)) (qd_hd σ)) 99 20 = nI (s + 1) ∧ qd_tl (ma_156_99 N (X a) (nI (3 * s)) (qd_hd σ)) 114 s = nI a ∧ qd_tl (ma_156_99 N (X a) (nI (3 * s)) (qd_hd σ)) 115 s = X a ∧ qb_F (fun a j => (a = 99 ∧ (j = 18 ∨ j = 19 ∨ j = 20)) ∨ ((a = 114 ∨ a = 115) ∧ j = s) ∨ a = 116) σ (qd_tl (ma_156_99 N (X a) (nI (3 * s)) (qd_hd σ))) ∧ ∀ i, i < 3 * s → qd_tl (ma_156_99 N (X a) (nI (3 * s)) (qd_hd σ)) 116 i = σ 116 i := by
      refine ⟨t3, ?_, ?_, F, fun i hi => ?_⟩
      · rw [t4 114 s (by omega), g4 114 s (by omega)]; exact h3
      · rw [t4 115 s (by omega), g4 115 s (by omega)]; exact h4
      · rw [t4 116 i (by omega), g5 i hi]; exact h5 116 i (by omega)
    refine ⟨?_, ?_, rest⟩
    · intro p hp
      unfold q9d_e at hp
      rw [eX, if_neg hl] at hp
      cases hf : q9b_f (fun i => (X i).toInt) n (q9a_lb (X a).toInt - 1) (a + 1) with
      | some q =>
        rw [hf] at hp
        obtain ⟨q1, q2⟩ := g2 q hf
        rw [← Option.some.inj hp, ← q1]
        exact t1 q2
      | none =>
        rw [hf] at hp
        obtain ⟨q1, q2, -⟩ := g3 hf
        dsimp only at hp
        subst q1
        by_cases h59 : a + q9a_lb (X a).toInt < n ∧ (X (a + q9a_lb (X a).toInt)).toInt = 59
        · rw [if_pos h59] at hp; cases hp
        · rw [if_neg h59] at hp
          rw [← Option.some.inj hp]
          exact (t2 q2).2 h59
    · intro hp
      unfold q9d_e at hp
      rw [eX, if_neg hl] at hp
      cases hf : q9b_f (fun i => (X i).toInt) n (q9a_lb (X a).toInt - 1) (a + 1) with
      | some q => rw [hf] at hp; cases hp
      | none =>
        rw [hf] at hp
        obtain ⟨q1, q2, q3⟩ := g3 hf
        dsimp only at hp
        subst q1
        by_cases h59 : a + q9a_lb (X a).toInt < n ∧ (X (a + q9a_lb (X a).toInt)).toInt = 59
        · refine ⟨han, ?_, qd_VF t4 (fun i hi => by omega) q3⟩
          rw [show a + 1 + q9a_lb (X a).toInt = a + q9a_lb (X a).toInt + 1 by omega]
          exact (t2 q2).1 h59
        · rw [if_neg h59] at hp; cases hp
end W65C

