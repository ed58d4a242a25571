/-! fits of the reference: a code that fits is found -/
theorem q76_same {M M' : q4_M} (hM : q52_M M) (hM' : q52_M M') (h : q52_F [] M M') : M' = M := by
  obtain ⟨m, g⟩ := M
  obtain ⟨m', g'⟩ := M'
  have e1 : m' = m := hM'.1.trans hM.1.symm
  subst e1
  congr 1
  funext a
  have h1 : (g' a).1 = (g a).1 ∧ (g' a).2.1 = (g a).2.1 := h.1 a
  have h2 : ∀ j, (g' a).2.2 j = (g a).2.2 j := fun j => h.2 a j rfl
  generalize g' a = x at h1 h2
  generalize g a = y at h1 h2
  obtain ⟨x1, x2, x3⟩ := x
  obtain ⟨y1, y2, y3⟩ := y
  have e2 : x3 = y3 := funext h2
  dsimp only at h1
  obtain ⟨h3, h4⟩ := h1
  rw [h3, h4, e2]
def q76_ok (M : q4_M) (c t : Nat) : Prop := q52_M M ∧ q60_J M ∧ (M.2 99).2.2 0 = .int (nI c) ∧ (M.2 99).2.2 5 = .int (nI t) ∧ c ≤ 7 ∧ t ≤ 6
theorem q76_F {M M' : q4_M} {W : q50_W} {c t : Nat} (h : q76_ok M c t) (hM : q52_M M') (hJ : q60_J M') (hF : q52_F W M M') (h0 : q50_iw W 99 0 = false) (h5 : q50_iw W 99 5 = false) : q76_ok M' c t :=
  ⟨hM, hJ, by rw [hF.2 99 0 h0]; exact h.2.2.1, by rw [hF.2 99 5 h5]; exact h.2.2.2.1, h.2.2.2.2⟩
/-- a method of the reference without numbers to it -/
theorem q76_arg : q4_get (lv_args 0 [.ref 99]) 0 = some (.ref 99) := rfl
theorem q76_cod {M : q4_M} {c t : Nat} (hV : ∀ i, i < 157 → q60_V (q70_at i)) (h : q76_ok M c t) : q62_ev 195 0 (lv_args 0 [.ref 99]) [] M 0 0 (some (.int (nI (3 ^ c))), M) := by
  obtain ⟨hM, hJ, h0, h5, hc, ht⟩ := h
  have key : ∀ (i : Nat) (P : q70_P) (r : Int), i < 157 → (q70_at i).1 = 195 → (q70_at i).2.1 = q70_p ([], [], [(99, (0, 0, 0), (0, (c : Int), (c : Int)))], [], [(0, (6, 99, 99))]) → (q70_at i).2.2.1 = [] → (q70_at i).2.2.2.2 = [q70_p ([], [], [], [], [(0, (0, r, r))])] → (nI (3 ^ c)).toInt = r → q62_ev 195 0 (lv_args 0 [.ref 99]) [] M 0 0 (some (.int (nI (3 ^ c))), M) := by
    intro i P r hi e1 e2 e3 e4 e5
    have hin : q60_in [] M (q70_at i).2.1 (lv_args 0 [.ref 99]) := by
      rw [e2]
      refine ⟨q74_E (l := []) trivial (by decide) (fun f hf => by cases hf), fun r hr => ?_, q74_Lc (n := 0) (L := []) (v := (6, 99, 99)) (x := .ref 99) rfl (q74_gr (a := 99)) q74_L0⟩
      rcases List.mem_cons.mp hr with rfl | hr
      · refine ⟨0, ⟨Int.le_refl _, Int.le_refl _⟩, ?_⟩
        show q52_g [] (0, (c : Int), (c : Int)) ((M.2 99).2.2 0)
        rw [h0]
        have : (nI c).toInt = (c : Int) := nI_toInt (by omega)
        exact Or.inl ⟨rfl, _, rfl, by show (c : Int) ≤ _; omega, by show _ ≤ (c : Int); omega⟩
      · cases hr
    obtain ⟨v, M1, hev, hM1, hJ1, hF1, P, hP, ho⟩ := q74_use (hV i hi) hM hJ hin
    rw [e3] at hF1
    have e := q76_same hM hM1 hF1
    subst e
    rw [e4] at hP
    rcases List.mem_cons.mp hP with rfl | hP
    · obtain ⟨ρ', -, -, -, hv⟩ := ho
      cases v with
      | none => cases hv
      | some x =>
        have hv : q52_g ρ' (0, r, r) x := hv
        obtain ⟨X, rfl, X0, X1⟩ := q54_gi rfl hv
        have : X = nI (3 ^ c) := Int32.toInt_inj.mp (by omega)
        rw [this, e1] at hev
        exact hev
    · cases hP
  have hc : c = 0 ∨ c = 1 ∨ c = 2 ∨ c = 3 ∨ c = 4 ∨ c = 5 ∨ c = 6 ∨ c = 7 := by omega
  rcases hc with rfl | rfl | rfl | rfl | rfl | rfl | rfl | rfl
  · exact key 140 ([], [], [], [], []) 1 (by decide) rfl rfl rfl rfl (by decide)
  · exact key 141 ([], [], [], [], []) 3 (by decide) rfl rfl rfl rfl (by decide)
  · exact key 142 ([], [], [], [], []) 9 (by decide) rfl rfl rfl rfl (by decide)
  · exact key 143 ([], [], [], [], []) 27 (by decide) rfl rfl rfl rfl (by decide)
  · exact key 144 ([], [], [], [], []) 81 (by decide) rfl rfl rfl rfl (by decide)
  · exact key 145 ([], [], [], [], []) 243 (by decide) rfl rfl rfl rfl (by decide)
  · exact key 146 ([], [], [], [], []) 729 (by decide) rfl rfl rfl rfl (by decide)
  · exact key 147 ([], [], [], [], []) 2187 (by decide) rfl rfl rfl rfl (by decide)
theorem q76_who {M : q4_M} {c t : Nat} (hV : ∀ i, i < 157 → q60_V (q70_at i)) (h : q76_ok M c t) : ∃ b : Int32, q62_ev 197 0 (lv_args 0 [.ref 99]) [] M 0 0 (some (.int b), M) ∧ 0 ≤ b.toInt ∧ b.toInt ≤ 2 ^ t - 1 := by
  obtain ⟨hM, hJ, h0, h5, hc, ht⟩ := h
  have key : ∀ (i : Nat) (r : Int), i < 157 → (q70_at i).1 = 197 → (q70_at i).2.1 = q70_p ([], [], [(99, (0, 5, 5), (0, (t : Int), (t : Int)))], [], [(0, (6, 99, 99))]) → (q70_at i).2.2.1 = [] → (q70_at i).2.2.2.2 = [q70_p ([], [], [], [], [(0, (0, 0, r))])] → r = 2 ^ t - 1 → ∃ b : Int32, q62_ev 197 0 (lv_args 0 [.ref 99]) [] M 0 0 (some (.int b), M) ∧ 0 ≤ b.toInt ∧ b.toInt ≤ 2 ^ t - 1 := by
    intro i r hi e1 e2 e3 e4 e5
    have hin : q60_in [] M (q70_at i).2.1 (lv_args 0 [.ref 99]) := by
      rw [e2]
      refine ⟨q74_E (l := []) trivial (by decide) (fun f hf => by cases hf), fun r hr => ?_, q74_Lc (n := 0) (L := []) (v := (6, 99, 99)) (x := .ref 99) rfl (q74_gr (a := 99)) q74_L0⟩
      rcases List.mem_cons.mp hr with rfl | hr
      · refine ⟨5, ⟨Int.le_refl _, Int.le_refl _⟩, ?_⟩
        show q52_g [] (0, (t : Int), (t : Int)) ((M.2 99).2.2 5)
        rw [h5]
        have : (nI t).toInt = (t : Int) := nI_toInt (by omega)
        exact Or.inl ⟨rfl, _, rfl, by show (t : Int) ≤ _; omega, by show _ ≤ (t : Int); omega⟩
      · cases hr
    obtain ⟨v, M1, hev, hM1, hJ1, hF1, P, hP, ho⟩ := q74_use (hV i hi) hM hJ hin
    rw [e3] at hF1
    have e := q76_same hM hM1 hF1
    subst e
    rw [e4] at hP
    rcases List.mem_cons.mp hP with rfl | hP
    · obtain ⟨ρ', -, -, -, hv⟩ := ho
      cases v with
      | none => cases hv
      | some x =>
        have hv : q52_g ρ' (0, 0, r) x := hv
        obtain ⟨X, rfl, X0, X1⟩ := q54_gi rfl hv
        rw [e1] at hev
        exact ⟨X, hev, X0, by rw [← e5]; exact X1⟩
    · cases hP
  have ht : t = 0 ∨ t = 1 ∨ t = 2 ∨ t = 3 ∨ t = 4 ∨ t = 5 ∨ t = 6 := by omega
  rcases ht with rfl | rfl | rfl | rfl | rfl | rfl | rfl
  · exact key 149 0 (by decide) rfl rfl rfl rfl (by decide)
  · exact key 151 1 (by decide) rfl rfl rfl rfl (by decide)
  · exact key 152 3 (by decide) rfl rfl rfl rfl (by decide)
  · exact key 153 7 (by decide) rfl rfl rfl rfl (by decide)
  · exact key 154 15 (by decide) rfl rfl rfl rfl (by decide)
  · exact key 155 31 (by decide) rfl rfl rfl rfl (by decide)
  · exact key 156 63 (by decide) rfl rfl rfl rfl (by decide)
/-- methods without numbers and result: what they write -/
theorem q76_void {M : q4_M} {c t : Nat} (hV : ∀ i, i < 157 → q60_V (q70_at i)) (h : q76_ok M c t) {i : Nat} (hi : i < 157) (e2 : (q70_at i).2.1 = q70_p ([], [], [], [], [(0, (6, 99, 99))])) (e4 : (q70_at i).2.2.2.2 = [q70_p ([], [], [], [], [])]) (w0 : q50_iw (q70_at i).2.2.1 99 0 = false) (w5 : q50_iw (q70_at i).2.2.1 99 5 = false) : ∃ M1, q62_ev (q70_at i).1 0 (lv_args 0 [.ref 99]) [] M 0 0 (none, M1) ∧ q76_ok M1 c t ∧ q52_F (q70_at i).2.2.1 M M1 := by
  have hin : q60_in [] M (q70_at i).2.1 (lv_args 0 [.ref 99]) := by
    rw [e2]
    exact ⟨q74_E (l := []) trivial (by decide) (fun f hf => by cases hf), fun r hr => (by cases hr), q74_Lc (n := 0) (L := []) (v := (6, 99, 99)) (x := .ref 99) rfl (q74_gr (a := 99)) q74_L0⟩
  obtain ⟨v, M1, hev, hM1, hJ1, hF1, P, hP, ho⟩ := q74_use (hV i hi) h.1 h.2.1 hin
  rw [e4] at hP
  rcases List.mem_cons.mp hP with rfl | hP
  · obtain ⟨ρ', -, -, -, hv⟩ := ho
    cases v with
    | none => exact ⟨M1, hev, q76_F h hM1 hJ1 hF1 w0 w5, hF1⟩
    | some x => cases hv
  · cases hP
theorem q76_lay {M : q4_M} {c t : Nat} (hV : ∀ i, i < 157 → q60_V (q70_at i)) (h : q76_ok M c t) {x : Int32} (x0 : 0 ≤ x.toInt) (x1 : x.toInt ≤ 2186) : ∃ M1, q62_ev 196 0 (lv_args 0 [.ref 99, .int x]) [] M 0 0 (none, M1) ∧ q76_ok M1 c t ∧ q52_F [(110, 0, 6)] M M1 := by
  have hin : q60_in [x.toInt] M (q70_at 148).2.1 (lv_args 0 [.ref 99, .int x]) := by
    refine ⟨q74_E (l := [(0, 2186)]) ⟨⟨x0, x1⟩, trivial⟩ (by decide) (fun f hf => by cases hf), fun r hr => (by cases hr), q74_Lc (n := 0) (v := (6, 99, 99)) (x := .ref 99) rfl (q74_gr (a := 99)) (q74_Lc (n := 1) (L := []) (x := .int x) rfl (q74_gi (i := 0) rfl rfl) q74_L0)⟩
  obtain ⟨v, M1, hev, hM1, hJ1, hF1, P, hP, ho⟩ := q74_use (hV 148 (by decide)) h.1 h.2.1 hin
  rcases List.mem_cons.mp hP with rfl | hP
  · obtain ⟨ρ', -, -, -, hv⟩ := ho
    cases v with
    | none => exact ⟨M1, hev, q76_F h hM1 hJ1 hF1 rfl rfl, hF1⟩
    | some x => cases hv
  · cases hP

def q76_good (M : q4_M) (t n : Nat) : Prop := ∀ j, 1 ≤ j → j < n → ∃ v : Int32, (M.2 112).2.2 j = .int v ∧ 0 ≤ v.toInt ∧ v.toInt ≤ 2 ^ t - 1
def q76_W : q50_W := [(107, 0, 6), (108, 0, 27), (109, 0, 3), (110, 0, 6), (111, 0, 3), (112, 0, 2186)]
theorem q76_3 {c : Nat} (h : c ≤ 7) : 1 ≤ 3 ^ c ∧ 3 ^ c ≤ 2187 := by
  have hc : c = 0 ∨ c = 1 ∨ c = 2 ∨ c = 3 ∨ c = 4 ∨ c = 5 ∨ c = 6 ∨ c = 7 := by omega
  rcases hc with rfl | rfl | rfl | rfl | rfl | rfl | rfl | rfl <;> decide
theorem q76_iw : (List.range 2187).all (fun i => q50_iw q76_W 112 i) = true := by decide +kernel
theorem q76_loop {c t : Nat} (hV : ∀ i, i < 157 → q60_V (q70_at i)) : ∀ (d x : Nat) (M : q4_M) (lv : List (Nat × Value)), x + d = 3 ^ c → 1 ≤ x → q76_ok M c t → q4_get lv 0 = some (.ref 99) → q4_get lv 1 = some (.int (nI (3 ^ c))) → q4_get lv 2 = some (.int (nI x)) → q76_good M t x → ∃ M1, q62_ev 194 11 lv [] M 0 0 (none, M1) ∧ q76_ok M1 c t ∧ q52_F q76_W M M1 ∧ q76_good M1 t (3 ^ c) := by
  intro d
  induction d with
  | zero =>
    intro x M lv hx h1 hok g0 g1 g2 hg
    have h3 := q76_3 hok.2.2.2.2.1
    have e : x = 3 ^ c := by omega
    subst e
    refine ⟨M, ?_, hok, q57_Fr _ _, hg⟩
    refine q62_iload (n := 2) rfl g2 ?_
    refine q62_iload (n := 1) rfl g1 ?_
    refine q62_ift (c := .ge) rfl (decide_eq_true (Int32.le_iff_toInt_le.mpr (Int.le_refl _))) ?_
    exact q62_r (i := .return_) rfl rfl
  | succ d ih =>
    intro x M lv hx h1 hok g0 g1 g2 hg
    have h3 := q76_3 hok.2.2.2.2.1
    have ex : (nI x).toInt = (x : Int) := nI_toInt (by omega)
    have en : (nI (3 ^ c)).toInt = ((3 ^ c : Nat) : Int) := nI_toInt (by omega)
    obtain ⟨M1, a1, a2, a3⟩ := q76_lay hV hok (x := nI x) (by omega) (by omega)
    obtain ⟨M2, b1, b2, b3⟩ := q76_void hV a2 (i := 132) (by decide) rfl rfl rfl rfl
    obtain ⟨b, c1, c2, c3⟩ := q76_who hV b2
    have w132 : (q70_at 132).2.2.1 = [(111, 0, 3)] := rfl
    rw [w132] at b3
    have hj : (nI x).toInt.toNat = x := by omega
    obtain ⟨M3, e3⟩ : ∃ M3, M3 = q4_put M2 112 x (.int b) := ⟨_, rfl⟩
    have ht : t ≤ 6 := b2.2.2.2.2.2
    have ht2 : (2 : Int) ^ t ≤ 64 := by
      have ht : t = 0 ∨ t = 1 ∨ t = 2 ∨ t = 3 ∨ t = 4 ∨ t = 5 ∨ t = 6 := by omega
      rcases ht with rfl | rfl | rfl | rfl | rfl | rfl | rfl <;> decide
    have hM3 : q52_M M3 := by
      rw [e3]
      exact q57_put b2.1 (by decide) (by decide) (fun _ => by rw [q57_uni (a := 112) rfl]; exact q73_gi (q53_r32 b).1 (q53_r32 b).2)
    have hF3 : q52_F [(112, 0, 2186)] M2 M3 := by
      rw [e3]
      refine q57_putF ?_
      unfold q50_iw
      simp only [List.any_cons, List.any_nil, Bool.or_false, Bool.and_eq_true, q54_bq, q54_le, decide_eq_true_eq]
      refine ⟨⟨trivial, Nat.zero_le _⟩, ?_⟩
      show x ≤ 2186
      omega
    have hJ3 : q60_J M3 := by
      intro i hi v h1 h2
      rw [e3, q57_putN (by omega)] at h1
      rw [e3, q57_putN (by omega)] at h2
      exact b2.2.1 i hi v h1 h2
    have hok3 : q76_ok M3 c t := q76_F b2 hM3 hJ3 hF3 rfl rfl
    have hF03 : q52_F q76_W M M3 := q57_Ft (q61_Fw (by decide) a3) (q57_Ft (q61_Fw (by decide) b3) (q61_Fw (by decide) hF3))
    have hg3 : q76_good M3 t (x + 1) := by
      intro j j1 j2
      by_cases ej : j = x
      · subst ej
        exact ⟨b, by rw [e3]; exact q57_putE, c2, c3⟩
      · obtain ⟨v, v1, v2⟩ := hg j j1 (by omega)
        refine ⟨v, ?_, v2⟩
        rw [e3, q57_putN (by omega), b3.2 112 j rfl, a3.2 112 j rfl]
        exact v1
    have k : ∀ {j : Nat} {y : Value}, q4_get lv j = some y → j ≠ 2 → y.category = 1 → q4_get (q4_st1 lv 2 (.int (nI (x + 1)))) j = some y := fun h a b => q62_g2 h b a
    obtain ⟨M4, d1, d2, d3, d4⟩ := ih (x + 1) M3 (q4_st1 lv 2 (.int (nI (x + 1)))) (by omega) (by omega) hok3 (k g0 (by decide) rfl) (k g1 (by decide) rfl) q62_g1 hg3
    refine ⟨M4, ?_, d2, q57_Ft hF03 d3, d4⟩
    refine q62_iload (n := 2) rfl g2 ?_
    refine q62_iload (n := 1) rfl g1 ?_
    refine q62_iff (c := .ge) rfl (decide_eq_false (by rw [Int32.le_iff_toInt_le]; omega)) ?_
    refine q62_aload (n := 0) rfl g0 ?_
    refine q62_iload (n := 2) rfl g2 ?_
    refine q62_virt (y := 196) (a := 99) (as := [.int (nI x)]) (rest := []) (v := none) rfl hok.1 rfl rfl (of_decide_eq_true rfl) (by decide) a1 ?_
    refine q62_aload (n := 0) rfl g0 ?_
    refine q62_virt (y := 183) (a := 99) (as := []) (rest := []) (v := none) rfl a2.1 rfl rfl (of_decide_eq_true rfl) (by decide) b1 ?_
    refine q62_aload (n := 0) rfl g0 ?_
    refine q62_getfield (f := 463) rfl b2.1 (by decide) (q62_ref (p := 112) b2.1 (by decide) (by decide) (by decide) rfl) ?_
    refine q62_iload (n := 2) rfl g2 ?_
    refine q62_aload (n := 0) rfl g0 ?_
    refine q62_virt (y := 197) (a := 99) (as := []) (rest := [.int (nI x), .ref 112]) (v := some (.int b)) rfl b2.1 rfl rfl (of_decide_eq_true rfl) (by decide) c1 ?_
    refine q62_iastore (a := 112) rfl b2.1 (by decide) (by omega) (by have : q51_len 112 = 2187 := rfl; omega) ?_
    rw [hj, ← e3]
    have en1 : nI x + Int32.ofInt 1 = nI (x + 1) := Int32.toInt_inj.mp (by
      have e5 : (nI (x + 1)).toInt = ((x + 1 : Nat) : Int) := nI_toInt (by omega)
      rw [Int32.toInt_add, ex, e5]
      exact q53_b32 (z := (x : Int) + 1) (by omega) (by omega))
    refine q62_iinc (n := 2) (v := 1) rfl g2 (by decide) ?_
    rw [en1]
    exact q62_s (i := .goto 11) rfl rfl d1
theorem q76_all {M : q4_M} {c t : Nat} (hV : ∀ i, i < 157 → q60_V (q70_at i)) (h : q76_ok M c t) : ∃ M1, q62_ev 194 0 (lv_args 0 [.ref 99]) [] M 0 0 (none, M1) ∧ q76_ok M1 c t ∧ q52_F q76_W M M1 ∧ q76_good M1 t (3 ^ c) := by
  obtain ⟨M1, a1, a2, a3⟩ := q76_void hV h (i := 133) (by decide) rfl rfl rfl rfl
  have w133 : (q70_at 133).2.2.1 = [(108, 0, 27), (109, 0, 3), (110, 0, 6), (111, 0, 3)] := rfl
  rw [w133] at a3
  have h3 := q76_3 h.2.2.2.2.1
  obtain ⟨M2, b1, b2, b3, b4⟩ := q76_loop hV (3 ^ c - 1) 1 M1 (q4_st1 (q4_st1 (lv_args 0 [.ref 99]) 1 (.int (nI (3 ^ c)))) 2 (.int (nI 1))) (by omega) (by omega) a2 (q62_g2 (q62_g2 q76_arg rfl (by decide)) rfl (by decide)) (q62_g2 q62_g1 rfl (by decide)) q62_g1 (fun j h1 h2 => by omega)
  refine ⟨M2, ?_, b2, q57_Ft (q61_Fw (by decide) a3) b3, b4⟩
  refine q62_aload (n := 0) rfl q76_arg ?_
  refine q62_virt (y := 180) (a := 99) (as := []) (rest := []) (v := none) rfl h.1 rfl rfl (of_decide_eq_true rfl) (by decide) a1 ?_
  refine q62_aload (n := 0) rfl q76_arg ?_
  refine q62_virt (y := 195) (a := 99) (as := []) (rest := []) (v := some (.int (nI (3 ^ c)))) rfl a2.1 rfl rfl (of_decide_eq_true rfl) (by decide) (q76_cod hV a2) ?_
  refine q62_istore (n := 1) rfl (by decide) ?_
  refine q62_s (i := .bipush 1) rfl rfl ?_
  exact q62_istore (n := 2) rfl (by decide) b1

def q76_w (t : Nat) : Int32 := (Int32.ofInt 1 <<< (nI t &&& 31)) - Int32.ofInt 1
theorem q76_wt : ∀ t, t ≤ 6 → (q76_w t).toInt = 2 ^ t - 1 ∧ 0 ≤ (q76_w t).toInt := by decide +kernel
theorem q76_ev {M : q4_M} {c t : Nat} {lv : List (Nat × Value)} (h : q76_ok M c t) (g0 : q4_get lv 0 = some (.ref 99)) : q62_ev 190 0 lv [] M 0 0 (some (.int (q76_w t)), M) := by
  refine q62_s (i := .bipush 1) rfl rfl ?_
  refine q62_aload (n := 0) rfl g0 ?_
  refine q62_getfield (f := 453) rfl h.1 (by decide) h.2.2.2.1 ?_
  refine q62_s (i := .ishl) rfl rfl ?_
  refine q62_s (i := .bipush 1) rfl rfl ?_
  refine q62_s (i := .isub) rfl rfl ?_
  exact q62_r (i := .ireturn) rfl rfl
def q76_fnd (M : q4_M) (w : Int32) (n : Nat) : Prop := ∃ j, 1 ≤ j ∧ j < n ∧ ∃ v : Int32, (M.2 112).2.2 j = .int v ∧ v &&& w = w
theorem q76_by {c t : Nat} {w : Int32} {M : q4_M} (hok : q76_ok M c t) : ∀ (d x : Nat) (n : Int32) (lv : List (Nat × Value)), x + d = 3 ^ c → 1 ≤ x → q4_get lv 0 = some (.ref 99) → q4_get lv 1 = some (.int w) → q4_get lv 2 = some (.int n) → q4_get lv 3 = some (.int (nI (3 ^ c))) → q4_get lv 4 = some (.int (nI x)) → (n ≠ 0 → q76_fnd M w x) → ∃ m : Int32, q62_ev 199 10 lv [] M 0 0 (some (.int m), M) ∧ (m ≠ 0 → q76_fnd M w (3 ^ c)) := by
  have h3 := q76_3 hok.2.2.2.2.1
  intro d
  induction d with
  | zero =>
    intro x n lv hx h1 g0 g1 g2 g3 g4 hf
    have e : x = 3 ^ c := by omega
    subst e
    refine ⟨n, ?_, hf⟩
    refine q62_iload (n := 4) rfl g4 ?_
    refine q62_iload (n := 3) rfl g3 ?_
    refine q62_ift (c := .ge) rfl (decide_eq_true (Int32.le_iff_toInt_le.mpr (Int.le_refl _))) ?_
    refine q62_iload (n := 2) rfl g2 ?_
    exact q62_r (i := .ireturn) rfl rfl
  | succ d ih =>
    intro x n lv hx h1 g0 g1 g2 g3 g4 hf
    have ex : (nI x).toInt = (x : Int) := nI_toInt (by omega)
    have en : (nI (3 ^ c)).toInt = ((3 ^ c : Nat) : Int) := nI_toInt (by omega)
    have hj : (nI x).toInt.toNat = x := by omega
    have en1 : nI x + Int32.ofInt 1 = nI (x + 1) := Int32.toInt_inj.mp (by
      have e5 : (nI (x + 1)).toInt = ((x + 1 : Nat) : Int) := nI_toInt (by omega)
      rw [Int32.toInt_add, ex, e5]
      exact q53_b32 (z := (x : Int) + 1) (by omega) (by omega))
    have hlen : q51_len 112 = 2187 := rfl
    obtain ⟨v, hv, -, -⟩ := q62_int (a := 112) (j := x) (lo := -2147483648) (hi := 2147483647) hok.1 (by decide) (by decide) (by omega) (by rw [q57_uni (a := 112) rfl]; rfl)
    have head : ∀ r, q62_ev 199 27 lv [.int w, .int (v &&& w), .int n] M 0 0 r → q62_ev 199 10 lv [] M 0 0 r := by
      intro r hr
      refine q62_iload (n := 4) rfl g4 ?_
      refine q62_iload (n := 3) rfl g3 ?_
      refine q62_iff (c := .ge) rfl (decide_eq_false (by rw [Int32.le_iff_toInt_le]; omega)) ?_
      refine q62_iload (n := 2) rfl g2 ?_
      refine q62_aload (n := 0) rfl g0 ?_
      refine q62_getfield (f := 463) rfl hok.1 (by decide) (q62_ref (p := 112) hok.1 (by decide) (by decide) (by decide) rfl) ?_
      refine q62_iload (n := 4) rfl g4 ?_
      refine q62_iaload (a := 112) (v := .int v) rfl hok.1 (by decide) (by omega) (by omega) (by rw [hj]; exact hv) ?_
      refine q62_iload (n := 1) rfl g1 ?_
      refine q62_s (i := .iand) rfl rfl ?_
      exact q62_iload (n := 1) rfl g1 hr
    have tail : ∀ (m : Int32) (r : Option Value × q4_M), q62_ev 199 10 (q4_st1 (q4_st1 lv 2 (.int m)) 4 (.int (nI (x + 1)))) [] M 0 0 r → q62_ev 199 36 lv [.int m] M 0 0 r := by
      intro m r hr
      refine q62_istore (n := 2) rfl (by decide) ?_
      refine q62_iinc (n := 4) (v := 1) rfl (q62_g2 g4 rfl (by decide)) (by decide) ?_
      rw [en1]
      exact q62_s (i := .goto 10) rfl rfl hr
    have k : ∀ {j : Nat} {y z : Value}, q4_get lv j = some y → j ≠ 2 → j ≠ 4 → y.category = 1 → q4_get (q4_st1 (q4_st1 lv 2 z) 4 (.int (nI (x + 1)))) j = some y := fun h a b c => q62_g2 (q62_g2 h c a) c b
    have wid : q76_fnd M w x → q76_fnd M w (x + 1) := fun ⟨j, j1, j2, j3⟩ => ⟨j, j1, by omega, j3⟩
    cases hc : q4_icmp .ne (v &&& w) w with
    | true =>
      obtain ⟨m, e1, e2⟩ := ih (x + 1) (n + Int32.ofInt 0) (q4_st1 (q4_st1 lv 2 (.int (n + Int32.ofInt 0))) 4 (.int (nI (x + 1)))) (by omega) (by omega) (k g0 (by decide) (by decide) rfl) (k g1 (by decide) (by decide) rfl) (q62_g2 q62_g1 rfl (by decide)) (k g3 (by decide) (by decide) rfl) q62_g1 (fun h => wid (hf (fun e => h (by rw [e]; rfl))))
      refine ⟨m, head _ ?_, e2⟩
      refine q62_ift (c := .ne) rfl hc ?_
      refine q62_s (i := .bipush 0) rfl rfl ?_
      refine q62_s (i := .iadd) rfl rfl ?_
      exact tail _ _ e1
    | false =>
      have heq : v &&& w = w := by
        by_cases h : v &&& w = w
        · exact h
        · have : q4_icmp .ne (v &&& w) w = true := by
            show (!decide (v &&& w = w)) = true
            rw [decide_eq_false h]; rfl
          rw [hc] at this
          cases this
      obtain ⟨m, e1, e2⟩ := ih (x + 1) (n + Int32.ofInt 1) (q4_st1 (q4_st1 lv 2 (.int (n + Int32.ofInt 1))) 4 (.int (nI (x + 1)))) (by omega) (by omega) (k g0 (by decide) (by decide) rfl) (k g1 (by decide) (by decide) rfl) (q62_g2 q62_g1 rfl (by decide)) (k g3 (by decide) (by decide) rfl) q62_g1 (fun _ => ⟨x, h1, by omega, v, hv, heq⟩)
      refine ⟨m, head _ ?_, e2⟩
      refine q62_iff (c := .ne) rfl hc ?_
      refine q62_s (i := .bipush 1) rfl rfl ?_
      refine q62_s (i := .goto 35) rfl rfl ?_
      refine q62_s (i := .iadd) rfl rfl ?_
      exact tail _ _ e1
theorem q76_byV {M : q4_M} {c t : Nat} {w : Int32} (hV : ∀ i, i < 157 → q60_V (q70_at i)) (h : q76_ok M c t) : ∃ m : Int32, q62_ev 199 0 (lv_args 0 [.ref 99, .int w]) [] M 0 0 (some (.int m), M) ∧ (m ≠ 0 → q76_fnd M w (3 ^ c)) := by
  have h3 := q76_3 h.2.2.2.2.1
  have g0 : q4_get (lv_args 0 [.ref 99, .int w]) 0 = some (.ref 99) := rfl
  have g1 : q4_get (lv_args 0 [.ref 99, .int w]) 1 = some (.int w) := rfl
  obtain ⟨m, e1, e2⟩ := q76_by (w := w) h (3 ^ c - 1) 1 0 (q4_st1 (q4_st1 (q4_st1 (lv_args 0 [.ref 99, .int w]) 2 (.int 0)) 3 (.int (nI (3 ^ c)))) 4 (.int (nI 1))) (by omega) (by omega) (q62_g2 (q62_g2 (q62_g2 g0 rfl (by decide)) rfl (by decide)) rfl (by decide)) (q62_g2 (q62_g2 (q62_g2 g1 rfl (by decide)) rfl (by decide)) rfl (by decide)) (q62_g2 (q62_g2 q62_g1 rfl (by decide)) rfl (by decide)) (q62_g2 q62_g1 rfl (by decide)) q62_g1 (fun h => absurd rfl h)
  refine ⟨m, ?_, e2⟩
  refine q62_s (i := .bipush 0) rfl rfl ?_
  refine q62_istore (n := 2) rfl (by decide) ?_
  refine q62_aload (n := 0) rfl (q62_g2 g0 rfl (by decide)) ?_
  refine q62_virt (y := 195) (a := 99) (as := []) (rest := []) (v := some (.int (nI (3 ^ c)))) rfl h.1 rfl rfl (of_decide_eq_true rfl) (by decide) (q76_cod hV h) ?_
  refine q62_istore (n := 3) rfl (by decide) ?_
  refine q62_s (i := .bipush 1) rfl rfl ?_
  exact q62_istore (n := 4) rfl (by decide) e1
theorem q76_fitting {M : q4_M} {c t : Nat} (hV : ∀ i, i < 157 → q60_V (q70_at i)) (h : q76_ok M c t) : ∃ (m : Int32) (M1 : q4_M), q62_ev 193 0 (lv_args 0 [.ref 99]) [] M 0 0 (some (.int m), M1) ∧ q76_ok M1 c t ∧ q52_F q76_W M M1 ∧ q76_good M1 t (3 ^ c) ∧ (m ≠ 0 → q76_fnd M1 (q76_w t) (3 ^ c)) := by
  obtain ⟨M1, a1, a2, a3, a4⟩ := q76_all hV h
  obtain ⟨m, b1, b2⟩ := q76_byV (w := q76_w t) hV a2
  refine ⟨m, M1, ?_, a2, a3, a4, b2⟩
  refine q62_aload (n := 0) rfl q76_arg ?_
  refine q62_virt (y := 194) (a := 99) (as := []) (rest := []) (v := none) rfl h.1 rfl rfl (of_decide_eq_true rfl) (by decide) a1 ?_
  refine q62_aload (n := 0) rfl q76_arg ?_
  refine q62_aload (n := 0) rfl q76_arg ?_
  refine q62_virt (y := 190) (a := 99) (as := []) (rest := [.ref 99]) (v := some (.int (q76_w t))) rfl a2.1 rfl rfl (of_decide_eq_true rfl) (by decide) (q76_ev a2 q76_arg) ?_
  refine q62_virt (y := 199) (a := 99) (as := [.int (q76_w t)]) (rest := []) (v := some (.int m)) rfl a2.1 rfl rfl (of_decide_eq_true rfl) (by decide) b1 ?_
  exact q62_r (i := .ireturn) rfl rfl
/-- the search: up to the place where one is -/
theorem q76_find {M : q4_M} {c t : Nat} (h : q76_ok M c t) (hg : q76_good M t (3 ^ c)) {j : Nat} (j1 : 1 ≤ j) (j2 : j < 3 ^ c) {v : Int32} (hv : (M.2 112).2.2 j = .int v) (hw : v &&& q76_w t = q76_w t) : ∀ (d x : Nat) (lv : List (Nat × Value)), x + d = j → 1 ≤ x → q4_get lv 0 = some (.ref 99) → q4_get lv 3 = some (.int (nI x)) → ∃ y, 1 ≤ y ∧ y ≤ j ∧ ∃ lv', (∀ n z, n ≠ 3 → z.category = 1 → q4_get lv n = some z → q4_get lv' n = some z) ∧ q4_get lv' 3 = some (.int (nI y)) ∧ ∀ r, q62_ev 192 70 lv' [] M 0 0 r → q62_ev 192 51 lv [] M 0 0 r := by
  have h3 := q76_3 h.2.2.2.2.1
  have hlen : q51_len 112 = 2187 := rfl
  have hwt := q76_wt t h.2.2.2.2.2
  have hvw : v = q76_w t := by
    obtain ⟨u, hu, u0, u1⟩ := hg j j1 j2
    rw [hv] at hu
    cases hu
    have h5 := q53_and (x := v) (y := q76_w t) u0
    rw [hw] at h5
    exact Int32.toInt_inj.mp (by omega)
  have step : ∀ (x : Nat) (lv : List (Nat × Value)) (u : Int32), x < 2187 → (M.2 112).2.2 x = .int u → q4_get lv 0 = some (.ref 99) → q4_get lv 3 = some (.int (nI x)) → ∀ r, q62_ev 192 61 lv [.int (q76_w t), .int u] M 0 0 r → q62_ev 192 51 lv [] M 0 0 r := by
    intro x lv u hx hu g0 g3 r hr
    have ex : (nI x).toInt = (x : Int) := nI_toInt (by omega)
    have hj : (nI x).toInt.toNat = x := by omega
    refine q62_aload (n := 0) rfl g0 ?_
    refine q62_getfield (f := 463) rfl h.1 (by decide) (q62_ref (p := 112) h.1 (by decide) (by decide) (by decide) rfl) ?_
    refine q62_iload (n := 3) rfl g3 ?_
    refine q62_iaload (a := 112) (v := .int u) rfl h.1 (by decide) (by omega) (by omega) (by rw [hj]; exact hu) ?_
    refine q62_aload (n := 0) rfl g0 ?_
    exact q62_virt (y := 190) (a := 99) (as := []) (rest := [.int u]) (v := some (.int (q76_w t))) rfl h.1 rfl rfl (of_decide_eq_true rfl) (by decide) (q76_ev h q76_arg) hr
  intro d
  induction d with
  | zero =>
    intro x lv hx x1 g0 g3
    have e : x = j := by omega
    subst e
    refine ⟨x, x1, Nat.le_refl _, lv, fun n z _ _ hz => hz, g3, fun r hr => ?_⟩
    refine step x lv v (by omega) hv g0 g3 r ?_
    refine q62_ift (c := .eq) rfl ?_ hr
    rw [hvw]
    exact decide_eq_true rfl
  | succ d ih =>
    intro x lv hx x1 g0 g3
    obtain ⟨u, hu, -, -⟩ := q62_int (a := 112) (j := x) (lo := -2147483648) (hi := 2147483647) h.1 (by decide) (by decide) (by omega) (by rw [q57_uni (a := 112) rfl]; rfl)
    cases hc : q4_icmp .eq u (q76_w t) with
    | true => exact ⟨x, x1, by omega, lv, fun n z _ _ hz => hz, g3, fun r hr => step x lv u (by omega) hu g0 g3 r (q62_ift (c := .eq) rfl hc hr)⟩
    | false =>
      have ex : (nI x).toInt = (x : Int) := nI_toInt (by omega)
      have en1 : nI x + Int32.ofInt 1 = nI (x + 1) := Int32.toInt_inj.mp (by
        have e5 : (nI (x + 1)).toInt = ((x + 1 : Nat) : Int) := nI_toInt (by omega)
        rw [Int32.toInt_add, ex, e5]
        exact q53_b32 (z := (x : Int) + 1) (by omega) (by omega))
      obtain ⟨y, y1, y2, lv', l1, l2, l3⟩ := ih (x + 1) (q4_st1 lv 3 (.int (nI (x + 1)))) (by omega) (by omega) (q62_g2 g0 rfl (by decide)) q62_g1
      refine ⟨y, y1, y2, lv', fun n z hn hz hg => l1 n z hn hz (q62_g2 hg hz hn), l2, fun r hr => ?_⟩
      refine step x lv u (by omega) hu g0 g3 r ?_
      refine q62_iff (c := .eq) rfl hc ?_
      refine q62_iinc (n := 3) (v := 1) rfl g3 (by decide) ?_
      rw [en1]
      exact q62_s (i := .goto 51) rfl rfl (l3 r hr)
theorem q76_17 (hV : ∀ i, i < 157 → q60_V (q70_at i)) {ρ0 : List Int} (hn : ρ0.length = 1) : q61_step (q70_at 157) 0 0 ρ0 (17, [(0, 17)], q70_p q70_c157_17) := by
  intro ρ lv M he hin hM hJ
  right
  have hB : q74_B ρ [(-2147483648, 2147483647), (-1, 2147483647)] := q74_Ei hin.1
  obtain ⟨τ, hτ⟩ := he
  match ρ, hB, hin, hτ with
  | [a0, i], hB, hin, hτ =>
    obtain ⟨B0, B1, -⟩ := hB
    dsimp only at B0 B1
    have hL : q52_L [a0, i] [(0, (6, 99, 99)), (1, (1, 1, 0))] lv := hin.2.2
    have g0 := q74_lr (a := 99) hL (n := 0) (by simp)
    obtain ⟨I, g1, eI⟩ := q74_li hL (n := 1) (i := 1) (z := i) (by simp) rfl
    have e0 : ρ0 = [a0] := by
      match ρ0, hn, hτ with
      | [x], _, hτ =>
        have e1 := congrArg (fun l => l[0]?) hτ
        simp at e1
        rw [e1]
    obtain ⟨Cx, hC, C0, C1⟩ := q62_int (a := 99) (j := 0) (lo := 0) (hi := 7) hM (by decide) (by decide) (by decide) rfl
    obtain ⟨Tx, hT, T0, T1⟩ := q62_int (a := 99) (j := 5) (lo := 0) (hi := 6) hM (by decide) (by decide) (by decide) rfl
    obtain ⟨c, hc, rfl⟩ := q75_nI (n := 8) C0 (by omega)
    obtain ⟨t, ht, rfl⟩ := q75_nI (n := 7) T0 (by omega)
    have hok : q76_ok M c t := ⟨hM, hJ, hC, hT, by omega, by omega⟩
    have h3 := q76_3 (c := c) (by omega)
    obtain ⟨m, M1, f1, f2, f3, f4, f5⟩ := q76_fitting hV hok
    have w157 : (q70_at 157).2.2.1 = [(99, 9, 9), (107, 0, 6), (108, 0, 27), (109, 0, 3), (110, 0, 6), (111, 0, 3), (112, 0, 2186)] := rfl
    have hF : q52_F (q70_at 157).2.2.1 M M1 := by rw [w157]; exact q61_Fw (by decide) f3
    have k0 : ∀ {z : Value}, q4_get (q4_st1 lv 2 z) 0 = some (.ref 99) := q62_g2 g0 rfl (by decide)
    have k1 : ∀ {z : Value}, q4_get (q4_st1 lv 2 z) 1 = some (.int I) := q62_g2 g1 rfl (by decide)
    have p22 : ∀ r, q62_ev 192 22 (q4_st1 lv 2 (.int m)) [] M1 0 0 r → q62_ev 192 17 lv [] M 0 0 r := by
      intro r hr
      refine q62_aload (n := 0) rfl g0 ?_
      refine q62_virt (y := 193) (a := 99) (as := []) (rest := []) (v := some (.int m)) rfl hM rfl rfl (of_decide_eq_true rfl) (by decide) f1 ?_
      exact q62_istore (n := 2) rfl (by decide) hr
    have to38 : (∀ r, q62_ev 192 38 (q4_st1 lv 2 (.int m)) [] M1 0 0 r → q62_ev 192 17 lv [] M 0 0 r) → ∃ q' ∈ (q70_at 157).2.2.2.1, ∃ (zs : List Int) (lv' : List (Nat × Value)) (M' : q4_M), q52_e ρ0 zs ∧ q60_in zs M' q'.2.2 lv' ∧ q52_M M' ∧ q60_J M' ∧ q61_m lv' q'.2.1 < q61_m lv [(0, 17)] ∧ (q61_post (q70_at 157) 0 0 ρ0 q'.1 lv' M' → q61_post (q70_at 157) 0 0 ρ0 17 lv M) := by
      intro hp
      refine ⟨(38, [(0, 38)], q70_p q70_c157_38), .tail _ (.head _), [a0, i, m.toInt], q4_st1 lv 2 (.int m), M1, by rw [e0]; exact ⟨[i, m.toInt], rfl⟩, ⟨q74_E (l := [(-2147483648, 2147483647), (-1, 2147483647), (-2147483648, 2147483647)]) ⟨B0, B1, q53_r32 m, trivial⟩ (by decide) (fun f hf => by cases hf), fun r hr => (by cases hr), q74_Lc k0 (q74_gr (a := 99)) (q74_Lc k1 (q74_gi (i := 1) rfl eI) (q74_Lc q62_g1 (q74_gi (i := 2) rfl rfl) q74_L0))⟩, f2.1, f2.2.1, q75_lt (by decide) rfl (by rw [q75_g0, q75_g0]; decide), ?_⟩
      exact q75_post (c := q70_at 157) hF hp
    by_cases c1 : q4_icmp .lt I 0 = true
    · exact to38 (fun r hr => p22 r (q62_iload (n := 1) rfl k1 (q62_ict (c := .lt) rfl c1 hr)))
    have c1 : q4_icmp .lt I 0 = false := by cases h : q4_icmp .lt I 0 with | true => exact absurd h c1 | false => rfl
    by_cases c2 : q4_icmp .eq m 0 = true
    · exact to38 (fun r hr => p22 r (q62_iload (n := 1) rfl k1 (q62_icf (c := .lt) rfl c1 (q62_iload (n := 2) rfl q62_g1 (q62_ict (c := .eq) rfl c2 hr)))))
    have c2 : q4_icmp .eq m 0 = false := by cases h : q4_icmp .eq m 0 with | true => exact absurd h c2 | false => rfl
    have p35 : ∀ r, q62_ev 192 35 (q4_st1 lv 2 (.int m)) [.int (nI c), .int I] M1 0 0 r → q62_ev 192 17 lv [] M 0 0 r := by
      intro r hr
      refine p22 r (q62_iload (n := 1) rfl k1 (q62_icf (c := .lt) rfl c1 (q62_iload (n := 2) rfl q62_g1 (q62_icf (c := .eq) rfl c2 (q62_iload (n := 1) rfl k1 (q62_aload (n := 0) rfl k0 ?_))))))
      exact q62_getfield (f := 448) rfl f2.1 (by decide) f2.2.2.1 hr
    cases c3 : q4_icmp .lt I (nI c) with
    | false => exact to38 (fun r hr => p35 r (q62_iff (c := .lt) rfl c3 hr))
    | true =>
      have hm : m ≠ 0 := fun e => by
        rw [e] at c2
        exact absurd c2 (by decide)
      obtain ⟨j, j1, j2, v, j3, j4⟩ := f5 hm
      have hIc : I.toInt < (c : Int) := by
        have h4 := Int32.lt_iff_toInt_lt.mp (of_decide_eq_true c3)
        have : (nI c).toInt = (c : Int) := nI_toInt (by omega)
        omega
      have hI0 : 0 ≤ I.toInt := by
        have h4 : ¬ I < 0 := of_decide_eq_false c1
        rw [Int32.lt_iff_toInt_lt] at h4
        have : (0 : Int32).toInt = 0 := by decide
        omega
      obtain ⟨y, y1, y2, lv', l1, l2, l3⟩ := q76_find f2 f4 j1 j2 j3 j4 (j - 1) 1 (q4_st1 (q4_st1 lv 2 (.int m)) 3 (.int (nI 1))) (by omega) (by omega) (q62_g2 k0 rfl (by decide)) q62_g1
      have ey : (nI y).toInt = (y : Int) := nI_toInt (by omega)
      have kk : ∀ {n : Nat} {z : Value}, q4_get (q4_st1 lv 2 (.int m)) n = some z → n ≠ 3 → z.category = 1 → q4_get lv' n = some z := fun h a b => l1 _ _ a b (q62_g2 h b a)
      refine ⟨(70, [(0, 70)], q70_p q70_c157_70), .tail _ (.tail _ (.head _)), [a0, i, m.toInt, (y : Int)], lv', M1, by rw [e0]; exact ⟨[i, m.toInt, (y : Int)], rfl⟩, ⟨q74_E (l := [(-2147483648, 2147483647), (0, 6), (-2147483648, 2147483647), (1, 2186)]) ⟨B0, ⟨by dsimp only; omega, by dsimp only; omega⟩, q53_r32 m, ⟨by dsimp only; omega, by dsimp only; omega⟩, trivial⟩ (by decide) (fun f hf => by cases hf), fun r hr => (by cases hr), q74_Lc (kk k0 (by decide) rfl) (q74_gr (a := 99)) (q74_Lc (kk k1 (by decide) rfl) (q74_gi (i := 1) rfl eI) (q74_Lc (kk q62_g1 (by decide) rfl) (q74_gi (i := 2) rfl rfl) (q74_Lc l2 (q74_gi (i := 3) rfl ey) q74_L0)))⟩, f2.1, f2.2.1, q75_lt (by decide) rfl (by rw [q75_g0, q75_g0]; decide), ?_⟩
      refine q75_post (c := q70_at 157) hF (fun r hr => p35 r (q62_ift (c := .lt) rfl c3 ?_))
      refine q62_s (i := .bipush 1) rfl rfl ?_
      exact q62_istore (n := 3) rfl (by decide) (l3 r hr)
theorem q76_V (hΓ : ∀ y c, c ∈ q70_G y → c.1 < 157 → c.2.1 = y ∧ q60_V c.2) (hV : ∀ i, i < 157 → q60_V (q70_at i)) (hk : q70_ok 157 = true) : q60_V (q70_at 157) := by
  have hk : (q61_rb (q70_at 157) && q50_chkx q70_G [17] 30000 157 (q70_at 157)) = true := hk
  rw [Bool.and_eq_true] at hk
  refine q61_conx hΓ hk.1 hk.2 (fun ρ0 hn q hq hb => ?_)
  rcases List.mem_cons.mp hq with rfl | hq
  · exact q76_17 hV hn
  · rcases List.mem_cons.mp hq with rfl | hq
    · cases hb
    · rcases List.mem_cons.mp hq with rfl | hq
      · cases hb
      · cases hq
