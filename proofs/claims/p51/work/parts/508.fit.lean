/-! fits of the reference: a code that fits is found -/
theorem q76_same {M M' : q4_M} (hM : q52_M M) (hM' : q52_M M') (h : q52_F [] M M') : M' = M := by
  obtain ⟨m, g⟩ := M
  obtain ⟨m', g'⟩ := M'
  have e1 : m' = m := hM'.1.trans hM.1.symm
  subst e1
  congr 1
  funext a
  have h1 := h.1 a
  have h2 : ∀ j, (g' a).2.2 j = (g a).2.2 j := fun j => h.2 a j rfl
  generalize g' a = x at h1 h2
  generalize g a = y at h1 h2
  obtain ⟨x1, x2, x3⟩ := x
  obtain ⟨y1, y2, y3⟩ := y
  have e2 : x3 = y3 := funext h2
  dsimp only at h1
  rw [h1.1, h1.2, e2]
def q76_ok (M : q4_M) (c t : Nat) : Prop := q52_M M ∧ q60_J M ∧ (M.2 99).2.2 0 = .int (nI c) ∧ (M.2 99).2.2 5 = .int (nI t) ∧ c ≤ 7 ∧ t ≤ 6
theorem q76_F {M M' : q4_M} {W : q50_W} {c t : Nat} (h : q76_ok M c t) (hM : q52_M M') (hJ : q60_J M') (hF : q52_F W M M') (h0 : q50_iw W 99 0 = false) (h5 : q50_iw W 99 5 = false) : q76_ok M' c t :=
  ⟨hM, hJ, by rw [hF.2 99 0 h0]; exact h.2.2.1, by rw [hF.2 99 5 h5]; exact h.2.2.2.1, h.2.2.2.2⟩
/-- a method of the reference without numbers to it -/
theorem q76_arg {M : q4_M} : q4_get (lv_args 0 [.ref 99]) 0 = some (.ref 99) := rfl
theorem q76_cod {M : q4_M} {c t : Nat} (hV : ∀ i, i < 157 → q60_V (q70_at i)) (h : q76_ok M c t) : q62_ev 195 0 (lv_args 0 [.ref 99]) [] M 0 0 (some (.int (nI (3 ^ c))), M) := by
  obtain ⟨hM, hJ, h0, h5, hc, ht⟩ := h
  have key : ∀ (i : Nat) (P : q70_P) (r : Int), i < 157 → (q70_at i).1 = 195 → (q70_at i).2.1 = q70_p ([], [], [(99, (0, 0, 0), (0, (c : Int), (c : Int)))], [], [(0, (6, 99, 99))]) → (q70_at i).2.2.1 = [] → (q70_at i).2.2.2.2 = [q70_p ([], [], [], [], [(0, (0, r, r))])] → (nI (3 ^ c)).toInt = r → q62_ev 195 0 (lv_args 0 [.ref 99]) [] M 0 0 (some (.int (nI (3 ^ c))), M) := by
    intro i P r hi e1 e2 e3 e4 e5
    have hin : q60_in [] M (q70_at i).2.1 (lv_args 0 [.ref 99]) := by
      rw [e2]
      refine ⟨q74_E (l := []) trivial (by decide) (fun f hf => by cases hf), fun r hr => ?_, q74_Lc (n := 0) (L := []) (v := (6, 99, 99)) (x := .ref 99) rfl (q74_gr (a := 99)) q74_L0⟩
      rcases List.mem_cons.mp hr with rfl | hr
      · refine ⟨0, ⟨Int.le_refl _, Int.le_refl _⟩, ?_⟩
        show q52_g [] (0, (c : Int), (c : Int)) ((M.2 99).2.2 0)
        rw [h0]
        have : (nI c).toInt = (c : Int) := nI_toInt (by omega)
        exact Or.inl ⟨rfl, _, rfl, by show (c : Int) ≤ _; omega, by show _ ≤ (c : Int); omega⟩
      · cases hr
    obtain ⟨v, M1, hev, hM1, hJ1, hF1, P, hP, ho⟩ := q74_use (hV i hi) hM hJ hin
    rw [e3] at hF1
    have e := q76_same hM hM1 hF1
    subst e
    rw [e4] at hP
    rcases List.mem_cons.mp hP with rfl | hP
    · obtain ⟨ρ', -, -, -, hv⟩ := ho
      cases v with
      | none => cases hv
      | some x =>
        have hv : q52_g ρ' (0, r, r) x := hv
        obtain ⟨X, rfl, X0, X1⟩ := q54_gi rfl hv
        have : X = nI (3 ^ c) := Int32.toInt_inj.mp (by omega)
        rw [this, e1] at hev
        exact hev
    · cases hP
  have hc : c = 0 ∨ c = 1 ∨ c = 2 ∨ c = 3 ∨ c = 4 ∨ c = 5 ∨ c = 6 ∨ c = 7 := by omega
  rcases hc with rfl | rfl | rfl | rfl | rfl | rfl | rfl | rfl
  · exact key 140 ([], [], [], [], []) 1 (by decide) rfl rfl rfl rfl (by decide)
  · exact key 141 ([], [], [], [], []) 3 (by decide) rfl rfl rfl rfl (by decide)
  · exact key 142 ([], [], [], [], []) 9 (by decide) rfl rfl rfl rfl (by decide)
  · exact key 143 ([], [], [], [], []) 27 (by decide) rfl rfl rfl rfl (by decide)
  · exact key 144 ([], [], [], [], []) 81 (by decide) rfl rfl rfl rfl (by decide)
  · exact key 145 ([], [], [], [], []) 243 (by decide) rfl rfl rfl rfl (by decide)
  · exact key 146 ([], [], [], [], []) 729 (by decide) rfl rfl rfl rfl (by decide)
  · exact key 147 ([], [], [], [], []) 2187 (by decide) rfl rfl rfl rfl (by decide)
theorem q76_who {M : q4_M} {c t : Nat} (hV : ∀ i, i < 157 → q60_V (q70_at i)) (h : q76_ok M c t) : ∃ b : Int32, q62_ev 197 0 (lv_args 0 [.ref 99]) [] M 0 0 (some (.int b), M) ∧ 0 ≤ b.toInt ∧ b.toInt ≤ 2 ^ t - 1 := by
  obtain ⟨hM, hJ, h0, h5, hc, ht⟩ := h
  have key : ∀ (i : Nat) (r : Int), i < 157 → (q70_at i).1 = 197 → (q70_at i).2.1 = q70_p ([], [], [(99, (0, 5, 5), (0, (t : Int), (t : Int)))], [], [(0, (6, 99, 99))]) → (q70_at i).2.2.1 = [] → (q70_at i).2.2.2.2 = [q70_p ([], [], [], [], [(0, (0, 0, r))])] → r = 2 ^ t - 1 → ∃ b : Int32, q62_ev 197 0 (lv_args 0 [.ref 99]) [] M 0 0 (some (.int b), M) ∧ 0 ≤ b.toInt ∧ b.toInt ≤ 2 ^ t - 1 := by
    intro i r hi e1 e2 e3 e4 e5
    have hin : q60_in [] M (q70_at i).2.1 (lv_args 0 [.ref 99]) := by
      rw [e2]
      refine ⟨q74_E (l := []) trivial (by decide) (fun f hf => by cases hf), fun r hr => ?_, q74_Lc (n := 0) (L := []) (v := (6, 99, 99)) (x := .ref 99) rfl (q74_gr (a := 99)) q74_L0⟩
      rcases List.mem_cons.mp hr with rfl | hr
      · refine ⟨5, ⟨Int.le_refl _, Int.le_refl _⟩, ?_⟩
        show q52_g [] (0, (t : Int), (t : Int)) ((M.2 99).2.2 5)
        rw [h5]
        have : (nI t).toInt = (t : Int) := nI_toInt (by omega)
        exact Or.inl ⟨rfl, _, rfl, by show (t : Int) ≤ _; omega, by show _ ≤ (t : Int); omega⟩
      · cases hr
    obtain ⟨v, M1, hev, hM1, hJ1, hF1, P, hP, ho⟩ := q74_use (hV i hi) hM hJ hin
    rw [e3] at hF1
    have e := q76_same hM hM1 hF1
    subst e
    rw [e4] at hP
    rcases List.mem_cons.mp hP with rfl | hP
    · obtain ⟨ρ', -, -, -, hv⟩ := ho
      cases v with
      | none => cases hv
      | some x =>
        have hv : q52_g ρ' (0, 0, r) x := hv
        obtain ⟨X, rfl, X0, X1⟩ := q54_gi rfl hv
        rw [e1] at hev
        exact ⟨X, hev, X0, by rw [← e5]; exact X1⟩
    · cases hP
  have ht : t = 0 ∨ t = 1 ∨ t = 2 ∨ t = 3 ∨ t = 4 ∨ t = 5 ∨ t = 6 := by omega
  rcases ht with rfl | rfl | rfl | rfl | rfl | rfl | rfl
  · exact key 149 0 (by decide) rfl rfl rfl rfl (by decide)
  · exact key 151 1 (by decide) rfl rfl rfl rfl (by decide)
  · exact key 152 3 (by decide) rfl rfl rfl rfl (by decide)
  · exact key 153 7 (by decide) rfl rfl rfl rfl (by decide)
  · exact key 154 15 (by decide) rfl rfl rfl rfl (by decide)
  · exact key 155 31 (by decide) rfl rfl rfl rfl (by decide)
  · exact key 156 63 (by decide) rfl rfl rfl rfl (by decide)
/-- methods without numbers and result: what they write -/
theorem q76_void {M : q4_M} {c t : Nat} (hV : ∀ i, i < 157 → q60_V (q70_at i)) (h : q76_ok M c t) {i : Nat} (hi : i < 157) (e2 : (q70_at i).2.1 = q70_p ([], [], [], [], [(0, (6, 99, 99))])) (e4 : (q70_at i).2.2.2.2 = [q70_p ([], [], [], [], [])]) (w0 : q50_iw (q70_at i).2.2.1 99 0 = false) (w5 : q50_iw (q70_at i).2.2.1 99 5 = false) : ∃ M1, q62_ev (q70_at i).1 0 (lv_args 0 [.ref 99]) [] M 0 0 (none, M1) ∧ q76_ok M1 c t ∧ q52_F (q70_at i).2.2.1 M M1 := by
  have hin : q60_in [] M (q70_at i).2.1 (lv_args 0 [.ref 99]) := by
    rw [e2]
    exact ⟨q74_E (l := []) trivial (by decide) (fun f hf => by cases hf), fun r hr => (by cases hr), q74_Lc (n := 0) (L := []) (v := (6, 99, 99)) (x := .ref 99) rfl (q74_gr (a := 99)) q74_L0⟩
  obtain ⟨v, M1, hev, hM1, hJ1, hF1, P, hP, ho⟩ := q74_use (hV i hi) h.1 h.2.1 hin
  rw [e4] at hP
  rcases List.mem_cons.mp hP with rfl | hP
  · obtain ⟨ρ', -, -, -, hv⟩ := ho
    cases v with
    | none => exact ⟨M1, hev, q76_F h hM1 hJ1 hF1 w0 w5, hF1⟩
    | some x => cases hv
  · cases hP
theorem q76_lay {M : q4_M} {c t : Nat} (hV : ∀ i, i < 157 → q60_V (q70_at i)) (h : q76_ok M c t) {x : Int32} (x0 : 0 ≤ x.toInt) (x1 : x.toInt ≤ 2186) : ∃ M1, q62_ev 196 0 (lv_args 0 [.ref 99, .int x]) [] M 0 0 (none, M1) ∧ q76_ok M1 c t ∧ q52_F [(110, 0, 6)] M M1 := by
  have hin : q60_in [x.toInt] M (q70_at 148).2.1 (lv_args 0 [.ref 99, .int x]) := by
    refine ⟨q74_E (l := [(0, 2186)]) ⟨⟨x0, x1⟩, trivial⟩ (by decide) (fun f hf => by cases hf), fun r hr => (by cases hr), q74_Lc (n := 0) (v := (6, 99, 99)) (x := .ref 99) rfl (q74_gr (a := 99)) (q74_Lc (n := 1) (L := []) (x := .int x) rfl (q74_gi (i := 0) rfl rfl) q74_L0)⟩
  obtain ⟨v, M1, hev, hM1, hJ1, hF1, P, hP, ho⟩ := q74_use (hV 148 (by decide)) h.1 h.2.1 hin
  rcases List.mem_cons.mp hP with rfl | hP
  · obtain ⟨ρ', -, -, -, hv⟩ := ho
    cases v with
    | none => exact ⟨M1, hev, q76_F h hM1 hJ1 hF1 rfl rfl, hF1⟩
    | some x => cases hv
  · cases hP
