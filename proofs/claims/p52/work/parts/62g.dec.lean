/-- BuriedBySevens$Cellar, distance, (II)I -/
noncomputable def ma_112_4 (N : Nat) (a1 : Int32) (a2 : Int32) (σ : qa_S) : Int32 :=
  qa_in ((qa_wh (fun s => s) (mc_112_4_p5 N a1 a2 σ) N ((0 : Int32), (0 : Int32)))) fun r1 =>
  r1.2
theorem mb_112_4 {f N : Nat} (hN : f ≤ N) {M : q4_M} {r : Option Value × q4_M} {σ : qa_S} {a1 : Int32} {a2 : Int32} (hM : qa_O M) (es : qa_s M = σ) (h : q4_run f 112 0 (lv_args 0 [.ref 4, .int (a1), .int (a2)]) [] M 0 0 = some r) : r.1 = some (.int ((ma_112_4 N a1 a2 σ))) ∧ qa_O r.2 ∧ qa_s r.2 = σ := by
  obtain ⟨lv, el⟩ : ∃ l, l = lv_args 0 [.ref 4, .int (a1), .int (a2)] := ⟨_, rfl⟩
  have g0 : q4_get lv 0 = some (.ref 4) := by rw [el]; rfl
  have g1 : q4_get lv 1 = some (.int (a1)) := by rw [el]; rfl
  have g2 : q4_get lv 2 = some (.int (a2)) := by rw [el]; rfl
  rw [← el] at h
  clear el
  replace h := qa_push (z := (0 : Int32)) (q := 1) (qa_e rfl h) rfl (by decide)
  obtain ⟨lv, h, g, T⟩ := qa_istore (n := 3) (q := 2) (qa_e rfl h) rfl
  replace g0 := T _ _ g0 (by decide) (Or.inr rfl)
  replace g1 := T _ _ g1 (by decide) (Or.inr rfl)
  replace g2 := T _ _ g2 (by decide) (Or.inr rfl)
  have g3 := g
  clear g T
  replace h := qa_push (z := (0 : Int32)) (q := 3) (qa_e rfl h) rfl (by decide)
  obtain ⟨lv, h, g, T⟩ := qa_istore (n := 4) (q := 5) (qa_e rfl h) rfl
  replace g0 := T _ _ g0 (by decide) (Or.inr rfl)
  replace g1 := T _ _ g1 (by decide) (Or.inr rfl)
  replace g2 := T _ _ g2 (by decide) (Or.inr rfl)
  replace g3 := T _ _ g3 (by decide) (Or.inr rfl)
  have g4 := g
  clear g T
  obtain ⟨r1, er1⟩ : ∃ x, x = (qa_wh (fun s => s) (mc_112_4_p5 N a1 a2 σ) N ((0 : Int32), (0 : Int32))) := ⟨_, rfl⟩
  have L := md_112_4_p5 (l1 := a1) (l2 := a2) (σ := σ) (F := f) (N := N) (r := r) hN f N hN (Nat.le_refl f) ((0 : Int32), (0 : Int32)) _ _ hM es g0 g1 g2 g3 g4 h
  rw [← er1] at L
  obtain ⟨lv, M, h, hM, es, g3⟩ := L
  replace h := qa_iload (n := 3) (q := 43) (qa_e rfl h) rfl g3
  have er := qa_ri (qa_e rfl h)
  subst er
  have e0 : ma_112_4 N a1 a2 σ = r1.2 := by exact Eq.trans (qa_ie er1) (rfl)
  rw [e0]
  exact ⟨rfl, hM, es⟩
noncomputable def mc_111_3_p23 (N : Nat) (l3 : Int32) (σ : qa_S) (s : Int32 × Int32 × Int32) : (Int32 × Int32 × Int32) ⊕ (Int32 × Int32 × Int32) :=
  if s.1 < (σ 4 0) then
    qa_in ((ma_112_4 N l3 s.1 σ)) fun r2 =>
    .inl ((s.1 + (1 : Int32)), (if s.2.1 = (-9 : Int32) then (((10 : Int32) * l3) + s.1) else (if r2 < s.2.2 then (((10 : Int32) * l3) + s.1) else s.2.1)), (if s.2.1 = (-9 : Int32) then r2 else (if r2 < s.2.2 then r2 else s.2.2)))
  else
    .inr (s.1, s.2.1, s.2.2)
theorem md_111_3_p23 {N F : Nat} {r : Option Value × q4_M} {l3 : Int32} {σ : qa_S} (hN : F ≤ N) : ∀ f n, f ≤ n → f ≤ F → ∀ (s : Int32 × Int32 × Int32) (lv : List (Nat × Value)) (M : q4_M), qa_O M → qa_s M = σ → q4_get lv 0 = some (.ref 3) → q4_get lv 1 = some (.int (s.2.1)) → q4_get lv 2 = some (.int (s.2.2)) → q4_get lv 3 = some (.int (l3)) → q4_get lv 4 = some (.int (s.1)) → q4_run f 111 23 lv [] M 0 0 = some r → ∃ lv M, q4_run F 111 76 lv [] M 0 0 = some r ∧ qa_O M ∧ qa_s M = σ ∧ q4_get lv 0 = some (.ref 3) ∧ q4_get lv 1 = some (.int ((qa_wh (fun s => s) (mc_111_3_p23 N l3 σ) n s).2.1)) ∧ q4_get lv 2 = some (.int ((qa_wh (fun s => s) (mc_111_3_p23 N l3 σ) n s).2.2)) ∧ q4_get lv 3 = some (.int (l3)) := by
  intro f
  induction f with
  | zero => intro n _ _ s lv M hM es _ _ _ _ _ h; cases h
  | succ f ih =>
    intro n hn hF s lv M hM es g0 g1 g2 g3 g4 h
    obtain ⟨n, rfl⟩ : ∃ n1, n = n1 + 1 := ⟨n - 1, by omega⟩
    replace hn : f ≤ n := Nat.le_of_succ_le_succ hn
    have hN := Nat.le_trans (Nat.le_of_succ_le hF) hN
    replace h := qa_iload (n := 4) (q := 25) (qa_d rfl h) rfl g4
    replace h := qa_aload (n := 0) (q := 26) (qa_e rfl h) rfl g0
    replace h := qa_gr (b := 4) (j := 0) (q := 29) (qa_e rfl h) rfl hM rfl (by decide)
    replace h := qa_gi (j := 0) (q := 32) (qa_e rfl h) rfl hM es rfl (by decide)
    by_cases c1 : s.1 < (σ 4 0)
    · replace h := qa_iff (q := 35) (qa_e rfl h) rfl (qa_F_ge c1)
      replace h := qa_aload (n := 0) (q := 36) (qa_e rfl h) rfl g0
      replace h := qa_gr (b := 4) (j := 0) (q := 39) (qa_e rfl h) rfl hM rfl (by decide)
      replace h := qa_iload (n := 3) (q := 40) (qa_e rfl h) rfl g3
      replace h := qa_iload (n := 4) (q := 42) (qa_e rfl h) rfl g4
      obtain ⟨r2, er2⟩ : ∃ x, x = (ma_112_4 N l3 s.1 σ) := ⟨_, rfl⟩
      obtain ⟨M, h, hM, es⟩ := qa_c1 (y := 112) (as := [.ref 4, .int (l3), .int (s.1)]) (rest := []) (i := .invokevirtual 112) (q := 45) (qa_e rfl h) (Or.inl rfl) rfl rfl (by decide) rfl (fun r hc => mb_112_4 hN hM es hc)
      rw [← er2] at h
      obtain ⟨lv, h, g, T⟩ := qa_istore (n := 5) (q := 47) (qa_e rfl h) rfl
      replace g0 := T _ _ g0 (by decide) (Or.inr rfl)
      replace g1 := T _ _ g1 (by decide) (Or.inr rfl)
      replace g2 := T _ _ g2 (by decide) (Or.inr rfl)
      replace g3 := T _ _ g3 (by decide) (Or.inr rfl)
      replace g4 := T _ _ g4 (by decide) (Or.inr rfl)
      have g5 := g
      clear g T
      replace h := qa_iload (n := 1) (q := 48) (qa_e rfl h) rfl g1
      replace h := qa_push (z := (-9 : Int32)) (q := 50) (qa_e rfl h) rfl (by decide)
      obtain ⟨lv, M, h, hM, es, g0, g1, g2, g3, g4⟩ : ∃ lv M, q4_run f 111 70 lv [] M 0 0 = some r ∧ qa_O M ∧ qa_s M = σ ∧ q4_get lv 0 = some (.ref 3) ∧ q4_get lv 1 = some (.int ((if s.2.1 = (-9 : Int32) then (((10 : Int32) * l3) + s.1) else (if r2 < s.2.2 then (((10 : Int32) * l3) + s.1) else s.2.1)))) ∧ q4_get lv 2 = some (.int ((if s.2.1 = (-9 : Int32) then r2 else (if r2 < s.2.2 then r2 else s.2.2)))) ∧ q4_get lv 3 = some (.int (l3)) ∧ q4_get lv 4 = some (.int (s.1)) := by
        by_cases c3 : s.2.1 = (-9 : Int32)
        · replace h := qa_ift (q := 59) (qa_e rfl h) rfl (qa_T_eq c3)
          replace h := qa_push (z := (10 : Int32)) (q := 61) (qa_e rfl h) rfl (by decide)
          replace h := qa_iload (n := 3) (q := 62) (qa_e rfl h) rfl g3
          replace h := qa_imul (q := 63) (qa_e rfl h) rfl
          replace h := qa_iload (n := 4) (q := 65) (qa_e rfl h) rfl g4
          replace h := qa_iadd (q := 66) (qa_e rfl h) rfl
          obtain ⟨lv, h, g, T⟩ := qa_istore (n := 1) (q := 67) (qa_e rfl h) rfl
          replace g0 := T _ _ g0 (by decide) (Or.inr rfl)
          replace g3 := T _ _ g3 (by decide) (Or.inr rfl)
          replace g4 := T _ _ g4 (by decide) (Or.inr rfl)
          replace g5 := T _ _ g5 (by decide) (Or.inr rfl)
          have g1 := g
          clear g T
          replace h := qa_iload (n := 5) (q := 69) (qa_e rfl h) rfl g5
          obtain ⟨lv, h, g, T⟩ := qa_istore (n := 2) (q := 70) (qa_e rfl h) rfl
          replace g0 := T _ _ g0 (by decide) (Or.inr rfl)
          replace g1 := T _ _ g1 (by decide) (Or.inr rfl)
          replace g3 := T _ _ g3 (by decide) (Or.inr rfl)
          replace g4 := T _ _ g4 (by decide) (Or.inr rfl)
          have g2 := g
          clear g T
          exact ⟨lv, M, h, hM, es, g0, (qa_gi1 c3 g1), (qa_gi1 c3 g2), g3, g4⟩
        · replace h := qa_iff (q := 53) (qa_e rfl h) rfl (qa_F_eq c3)
          replace h := qa_iload (n := 5) (q := 55) (qa_e rfl h) rfl g5
          replace h := qa_iload (n := 2) (q := 56) (qa_e rfl h) rfl g2
          obtain ⟨lv, M, h, hM, es, g0, g1, g2, g3, g4⟩ : ∃ lv M, q4_run f 111 70 lv [] M 0 0 = some r ∧ qa_O M ∧ qa_s M = σ ∧ q4_get lv 0 = some (.ref 3) ∧ q4_get lv 1 = some (.int ((if r2 < s.2.2 then (((10 : Int32) * l3) + s.1) else s.2.1))) ∧ q4_get lv 2 = some (.int ((if r2 < s.2.2 then r2 else s.2.2))) ∧ q4_get lv 3 = some (.int (l3)) ∧ q4_get lv 4 = some (.int (s.1)) := by
            by_cases c4 : r2 < s.2.2
            · replace h := qa_iff (q := 59) (qa_e rfl h) rfl (qa_F_ge c4)
              replace h := qa_push (z := (10 : Int32)) (q := 61) (qa_e rfl h) rfl (by decide)
              replace h := qa_iload (n := 3) (q := 62) (qa_e rfl h) rfl g3
              replace h := qa_imul (q := 63) (qa_e rfl h) rfl
              replace h := qa_iload (n := 4) (q := 65) (qa_e rfl h) rfl g4
              replace h := qa_iadd (q := 66) (qa_e rfl h) rfl
              obtain ⟨lv, h, g, T⟩ := qa_istore (n := 1) (q := 67) (qa_e rfl h) rfl
              replace g0 := T _ _ g0 (by decide) (Or.inr rfl)
              replace g3 := T _ _ g3 (by decide) (Or.inr rfl)
              replace g4 := T _ _ g4 (by decide) (Or.inr rfl)
              replace g5 := T _ _ g5 (by decide) (Or.inr rfl)
              have g1 := g
              clear g T
              replace h := qa_iload (n := 5) (q := 69) (qa_e rfl h) rfl g5
              obtain ⟨lv, h, g, T⟩ := qa_istore (n := 2) (q := 70) (qa_e rfl h) rfl
              replace g0 := T _ _ g0 (by decide) (Or.inr rfl)
              replace g1 := T _ _ g1 (by decide) (Or.inr rfl)
              replace g3 := T _ _ g3 (by decide) (Or.inr rfl)
              replace g4 := T _ _ g4 (by decide) (Or.inr rfl)
              have g2 := g
              clear g T
              exact ⟨lv, M, h, hM, es, g0, (qa_gi1 c4 g1), (qa_gi1 c4 g2), g3, g4⟩
            · replace h := qa_ift (q := 70) (qa_e rfl h) rfl (qa_T_ge c4)
              exact ⟨lv, M, h, hM, es, g0, (qa_gi0 c4 g1), (qa_gi0 c4 g2), g3, g4⟩
          exact ⟨lv, M, h, hM, es, g0, (qa_gi0 c3 g1), (qa_gi0 c3 g2), g3, g4⟩
      obtain ⟨lv, h, g, T⟩ := qa_iinc (n := 4) (z := (1 : Int32)) (q := 73) (qa_e rfl h) rfl (by decide) g4
      replace g0 := T _ _ g0 (by decide) (Or.inr rfl)
      replace g1 := T _ _ g1 (by decide) (Or.inr rfl)
      replace g2 := T _ _ g2 (by decide) (Or.inr rfl)
      replace g3 := T _ _ g3 (by decide) (Or.inr rfl)
      replace g4 := g
      clear g T
      replace h := qa_goto (q := 23) (qa_e rfl h) rfl
      have e0 : mc_111_3_p23 N l3 σ s = .inl ((s.1 + (1 : Int32)), (if s.2.1 = (-9 : Int32) then (((10 : Int32) * l3) + s.1) else (if r2 < s.2.2 then (((10 : Int32) * l3) + s.1) else s.2.1)), (if s.2.1 = (-9 : Int32) then r2 else (if r2 < s.2.2 then r2 else s.2.2))) := by exact Eq.trans (if_pos c1) (Eq.trans (qa_ie er2) (rfl))
      rw [qa_whl e0]
      exact ih n hn (Nat.le_of_succ_le hF) ((s.1 + (1 : Int32)), (if s.2.1 = (-9 : Int32) then (((10 : Int32) * l3) + s.1) else (if r2 < s.2.2 then (((10 : Int32) * l3) + s.1) else s.2.1)), (if s.2.1 = (-9 : Int32) then r2 else (if r2 < s.2.2 then r2 else s.2.2))) _ _ hM es g0 g1 g2 g3 g4 h
    · replace h := qa_ift (q := 76) (qa_e rfl h) rfl (qa_T_ge c1)
      have e0 : mc_111_3_p23 N l3 σ s = .inr (s.1, s.2.1, s.2.2) := by exact Eq.trans (if_neg c1) (rfl)
      rw [qa_whr e0]
      exact ⟨_, _, q61_mono f F _ _ _ _ _ _ _ _ (Nat.le_of_succ_le hF) h, hM, es, g0, g1, g2, g3⟩
noncomputable def mc_111_3_p7 (N : Nat) (σ : qa_S) (s : Int32 × Int32 × Int32) : (Int32 × Int32 × Int32) ⊕ (Int32 × Int32 × Int32) :=
  if s.1 < (σ 4 0) then
    qa_in ((qa_wh (fun s => s) (mc_111_3_p23 N s.1 σ) N ((s.1 + (1 : Int32)), s.2.1, s.2.2))) fun r2 =>
    .inl ((s.1 + (1 : Int32)), r2.2.1, r2.2.2)
  else
    .inr (s.1, s.2.1, s.2.2)
theorem md_111_3_p7 {N F : Nat} {r : Option Value × q4_M} {σ : qa_S} (hN : F ≤ N) : ∀ f n, f ≤ n → f ≤ F → ∀ (s : Int32 × Int32 × Int32) (lv : List (Nat × Value)) (M : q4_M), qa_O M → qa_s M = σ → q4_get lv 0 = some (.ref 3) → q4_get lv 1 = some (.int (s.2.1)) → q4_get lv 2 = some (.int (s.2.2)) → q4_get lv 3 = some (.int (s.1)) → q4_run f 111 7 lv [] M 0 0 = some r → ∃ lv M, q4_run F 111 82 lv [] M 0 0 = some r ∧ qa_O M ∧ qa_s M = σ ∧ q4_get lv 1 = some (.int ((qa_wh (fun s => s) (mc_111_3_p7 N σ) n s).2.1)) := by
  intro f
  induction f with
  | zero => intro n _ _ s lv M hM es _ _ _ _ h; cases h
  | succ f ih =>
    intro n hn hF s lv M hM es g0 g1 g2 g3 h
    obtain ⟨n, rfl⟩ : ∃ n1, n = n1 + 1 := ⟨n - 1, by omega⟩
    replace hn : f ≤ n := Nat.le_of_succ_le_succ hn
    have hN := Nat.le_trans (Nat.le_of_succ_le hF) hN
    replace h := qa_iload (n := 3) (q := 8) (qa_d rfl h) rfl g3
    replace h := qa_aload (n := 0) (q := 9) (qa_e rfl h) rfl g0
    replace h := qa_gr (b := 4) (j := 0) (q := 12) (qa_e rfl h) rfl hM rfl (by decide)
    replace h := qa_gi (j := 0) (q := 15) (qa_e rfl h) rfl hM es rfl (by decide)
    by_cases c1 : s.1 < (σ 4 0)
    · replace h := qa_iff (q := 18) (qa_e rfl h) rfl (qa_F_ge c1)
      replace h := qa_iload (n := 3) (q := 19) (qa_e rfl h) rfl g3
      replace h := qa_push (z := (1 : Int32)) (q := 20) (qa_e rfl h) rfl (by decide)
      replace h := qa_iadd (q := 21) (qa_e rfl h) rfl
      obtain ⟨lv, h, g, T⟩ := qa_istore (n := 4) (q := 23) (qa_e rfl h) rfl
      replace g0 := T _ _ g0 (by decide) (Or.inr rfl)
      replace g1 := T _ _ g1 (by decide) (Or.inr rfl)
      replace g2 := T _ _ g2 (by decide) (Or.inr rfl)
      replace g3 := T _ _ g3 (by decide) (Or.inr rfl)
      have g4 := g
      clear g T
      obtain ⟨r2, er2⟩ : ∃ x, x = (qa_wh (fun s => s) (mc_111_3_p23 N s.1 σ) N ((s.1 + (1 : Int32)), s.2.1, s.2.2)) := ⟨_, rfl⟩
      have L := md_111_3_p23 (l3 := s.1) (σ := σ) (F := f) (N := N) (r := r) hN f N hN (Nat.le_refl f) ((s.1 + (1 : Int32)), s.2.1, s.2.2) _ _ hM es g0 g1 g2 g3 g4 h
      rw [← er2] at L
      obtain ⟨lv, M, h, hM, es, g0, g1, g2, g3⟩ := L
      obtain ⟨lv, h, g, T⟩ := qa_iinc (n := 3) (z := (1 : Int32)) (q := 79) (qa_e rfl h) rfl (by decide) g3
      replace g0 := T _ _ g0 (by decide) (Or.inr rfl)
      replace g1 := T _ _ g1 (by decide) (Or.inr rfl)
      replace g2 := T _ _ g2 (by decide) (Or.inr rfl)
      replace g3 := g
      clear g T
      replace h := qa_goto (q := 7) (qa_e rfl h) rfl
      have e0 : mc_111_3_p7 N σ s = .inl ((s.1 + (1 : Int32)), r2.2.1, r2.2.2) := by exact Eq.trans (if_pos c1) (Eq.trans (qa_ie er2) (rfl))
      rw [qa_whl e0]
      exact ih n hn (Nat.le_of_succ_le hF) ((s.1 + (1 : Int32)), r2.2.1, r2.2.2) _ _ hM es g0 g1 g2 g3 h
    · replace h := qa_ift (q := 82) (qa_e rfl h) rfl (qa_T_ge c1)
      have e0 : mc_111_3_p7 N σ s = .inr (s.1, s.2.1, s.2.2) := by exact Eq.trans (if_neg c1) (rfl)
      rw [qa_whr e0]
      exact ⟨_, _, q61_mono f F _ _ _ _ _ _ _ _ (Nat.le_of_succ_le hF) h, hM, es, g1⟩
/-- BuriedBySevens, nearest, ()I -/
noncomputable def ma_111_3 (N : Nat) (σ : qa_S) : Int32 :=
  qa_in ((qa_wh (fun s => s) (mc_111_3_p7 N σ) N ((0 : Int32), (-9 : Int32), (0 : Int32)))) fun r1 =>
  r1.2.1
theorem mb_111_3 {f N : Nat} (hN : f ≤ N) {M : q4_M} {r : Option Value × q4_M} {σ : qa_S} (hM : qa_O M) (es : qa_s M = σ) (h : q4_run f 111 0 (lv_args 0 [.ref 3]) [] M 0 0 = some r) : r.1 = some (.int ((ma_111_3 N σ))) ∧ qa_O r.2 ∧ qa_s r.2 = σ := by
  obtain ⟨lv, el⟩ : ∃ l, l = lv_args 0 [.ref 3] := ⟨_, rfl⟩
  have g0 : q4_get lv 0 = some (.ref 3) := by rw [el]; rfl
  rw [← el] at h
  clear el
  replace h := qa_push (z := (-9 : Int32)) (q := 2) (qa_e rfl h) rfl (by decide)
  obtain ⟨lv, h, g, T⟩ := qa_istore (n := 1) (q := 3) (qa_e rfl h) rfl
  replace g0 := T _ _ g0 (by decide) (Or.inr rfl)
  have g1 := g
  clear g T
  replace h := qa_push (z := (0 : Int32)) (q := 4) (qa_e rfl h) rfl (by decide)
  obtain ⟨lv, h, g, T⟩ := qa_istore (n := 2) (q := 5) (qa_e rfl h) rfl
  replace g0 := T _ _ g0 (by decide) (Or.inr rfl)
  replace g1 := T _ _ g1 (by decide) (Or.inr rfl)
  have g2 := g
  clear g T
  replace h := qa_push (z := (0 : Int32)) (q := 6) (qa_e rfl h) rfl (by decide)
  obtain ⟨lv, h, g, T⟩ := qa_istore (n := 3) (q := 7) (qa_e rfl h) rfl
  replace g0 := T _ _ g0 (by decide) (Or.inr rfl)
  replace g1 := T _ _ g1 (by decide) (Or.inr rfl)
  replace g2 := T _ _ g2 (by decide) (Or.inr rfl)
  have g3 := g
  clear g T
  obtain ⟨r1, er1⟩ : ∃ x, x = (qa_wh (fun s => s) (mc_111_3_p7 N σ) N ((0 : Int32), (-9 : Int32), (0 : Int32))) := ⟨_, rfl⟩
  have L := md_111_3_p7 (σ := σ) (F := f) (N := N) (r := r) hN f N hN (Nat.le_refl f) ((0 : Int32), (-9 : Int32), (0 : Int32)) _ _ hM es g0 g1 g2 g3 h
  rw [← er1] at L
  obtain ⟨lv, M, h, hM, es, g1⟩ := L
  replace h := qa_iload (n := 1) (q := 83) (qa_e rfl h) rfl g1
  have er := qa_ri (qa_e rfl h)
  subst er
  have e0 : ma_111_3 N σ = r1.2.1 := by exact Eq.trans (qa_ie er1) (rfl)
  rw [e0]
  exact ⟨rfl, hM, es⟩
noncomputable def mc_114_3_p17 (N : Nat) (σ : qa_S) (s : Int32 × Int32 × Int32) : (Int32 × Int32 × Int32) ⊕ (Int32 × Int32 × Int32) :=
  if s.1 < (σ 4 0) then
    qa_in ((ma_95_4 N s.1 σ)) fun r2 =>
    .inl ((s.1 + (1 : Int32)), (if s.2.1 = (-9 : Int32) then s.1 else (if s.2.2 < ((σ 7 s.1.toNatClampNeg) * r2) then s.1 else s.2.1)), (if s.2.1 = (-9 : Int32) then ((σ 7 s.1.toNatClampNeg) * r2) else (if s.2.2 < ((σ 7 s.1.toNatClampNeg) * r2) then ((σ 7 s.1.toNatClampNeg) * r2) else s.2.2)))
  else
    .inr (s.1, s.2.1, s.2.2)
theorem md_114_3_p17 {N F : Nat} {r : Option Value × q4_M} {σ : qa_S} (hN : F ≤ N) : ∀ f n, f ≤ n → f ≤ F → ∀ (s : Int32 × Int32 × Int32) (lv : List (Nat × Value)) (M : q4_M), qa_O M → qa_s M = σ → q4_get lv 0 = some (.ref 3) → q4_get lv 1 = some (.int (s.2.1)) → q4_get lv 2 = some (.int (s.2.2)) → q4_get lv 3 = some (.int (s.1)) → q4_run f 114 17 lv [] M 0 0 = some r → ∃ lv M, q4_run F 114 71 lv [] M 0 0 = some r ∧ qa_O M ∧ qa_s M = σ ∧ q4_get lv 1 = some (.int ((qa_wh (fun s => s) (mc_114_3_p17 N σ) n s).2.1)) := by
  intro f
  induction f with
  | zero => intro n _ _ s lv M hM es _ _ _ _ h; cases h
  | succ f ih =>
    intro n hn hF s lv M hM es g0 g1 g2 g3 h
    obtain ⟨n, rfl⟩ : ∃ n1, n = n1 + 1 := ⟨n - 1, by omega⟩
    replace hn : f ≤ n := Nat.le_of_succ_le_succ hn
    have hN := Nat.le_trans (Nat.le_of_succ_le hF) hN
    replace h := qa_iload (n := 3) (q := 18) (qa_d rfl h) rfl g3
    replace h := qa_aload (n := 0) (q := 19) (qa_e rfl h) rfl g0
    replace h := qa_gr (b := 4) (j := 0) (q := 22) (qa_e rfl h) rfl hM rfl (by decide)
    replace h := qa_gi (j := 0) (q := 25) (qa_e rfl h) rfl hM es rfl (by decide)
    by_cases c1 : s.1 < (σ 4 0)
    · replace h := qa_iff (q := 28) (qa_e rfl h) rfl (qa_F_ge c1)
      replace h := qa_aload (n := 0) (q := 29) (qa_e rfl h) rfl g0
      replace h := qa_gr (b := 4) (j := 0) (q := 32) (qa_e rfl h) rfl hM rfl (by decide)
      replace h := qa_gr (b := 7) (j := 4) (q := 35) (qa_e rfl h) rfl hM rfl (by decide)
      replace h := qa_iload (n := 3) (q := 36) (qa_e rfl h) rfl g3
      replace h := qa_iaload (jn := s.1.toNatClampNeg) (q := 37) (qa_e rfl h) rfl hM es rfl
      replace h := qa_aload (n := 0) (q := 38) (qa_e rfl h) rfl g0
      replace h := qa_gr (b := 4) (j := 0) (q := 41) (qa_e rfl h) rfl hM rfl (by decide)
      replace h := qa_iload (n := 3) (q := 42) (qa_e rfl h) rfl g3
      obtain ⟨r2, er2⟩ : ∃ x, x = (ma_95_4 N s.1 σ) := ⟨_, rfl⟩
      obtain ⟨M, h, hM, es⟩ := qa_c1 (y := 95) (as := [.ref 4, .int (s.1)]) (rest := [.int ((σ 7 s.1.toNatClampNeg))]) (i := .invokevirtual 95) (q := 45) (qa_e rfl h) (Or.inl rfl) rfl rfl (by decide) rfl (fun r hc => mb_95_4 hN hM es hc)
      rw [← er2] at h
      replace h := qa_imul (q := 46) (qa_e rfl h) rfl
      obtain ⟨lv, h, g, T⟩ := qa_istore (n := 4) (q := 48) (qa_e rfl h) rfl
      replace g0 := T _ _ g0 (by decide) (Or.inr rfl)
      replace g1 := T _ _ g1 (by decide) (Or.inr rfl)
      replace g2 := T _ _ g2 (by decide) (Or.inr rfl)
      replace g3 := T _ _ g3 (by decide) (Or.inr rfl)
      have g4 := g
      clear g T
      replace h := qa_iload (n := 1) (q := 49) (qa_e rfl h) rfl g1
      replace h := qa_push (z := (-9 : Int32)) (q := 51) (qa_e rfl h) rfl (by decide)
      obtain ⟨lv, M, h, hM, es, g0, g1, g2, g3⟩ : ∃ lv M, q4_run f 114 65 lv [] M 0 0 = some r ∧ qa_O M ∧ qa_s M = σ ∧ q4_get lv 0 = some (.ref 3) ∧ q4_get lv 1 = some (.int ((if s.2.1 = (-9 : Int32) then s.1 else (if s.2.2 < ((σ 7 s.1.toNatClampNeg) * r2) then s.1 else s.2.1)))) ∧ q4_get lv 2 = some (.int ((if s.2.1 = (-9 : Int32) then ((σ 7 s.1.toNatClampNeg) * r2) else (if s.2.2 < ((σ 7 s.1.toNatClampNeg) * r2) then ((σ 7 s.1.toNatClampNeg) * r2) else s.2.2)))) ∧ q4_get lv 3 = some (.int (s.1)) := by
        by_cases c3 : s.2.1 = (-9 : Int32)
        · replace h := qa_ift (q := 60) (qa_e rfl h) rfl (qa_T_eq c3)
          replace h := qa_iload (n := 3) (q := 61) (qa_e rfl h) rfl g3
          obtain ⟨lv, h, g, T⟩ := qa_istore (n := 1) (q := 62) (qa_e rfl h) rfl
          replace g0 := T _ _ g0 (by decide) (Or.inr rfl)
          replace g3 := T _ _ g3 (by decide) (Or.inr rfl)
          replace g4 := T _ _ g4 (by decide) (Or.inr rfl)
          have g1 := g
          clear g T
          replace h := qa_iload (n := 4) (q := 64) (qa_e rfl h) rfl g4
          obtain ⟨lv, h, g, T⟩ := qa_istore (n := 2) (q := 65) (qa_e rfl h) rfl
          replace g0 := T _ _ g0 (by decide) (Or.inr rfl)
          replace g1 := T _ _ g1 (by decide) (Or.inr rfl)
          replace g3 := T _ _ g3 (by decide) (Or.inr rfl)
          have g2 := g
          clear g T
          exact ⟨lv, M, h, hM, es, g0, (qa_gi1 c3 g1), (qa_gi1 c3 g2), g3⟩
        · replace h := qa_iff (q := 54) (qa_e rfl h) rfl (qa_F_eq c3)
          replace h := qa_iload (n := 4) (q := 56) (qa_e rfl h) rfl g4
          replace h := qa_iload (n := 2) (q := 57) (qa_e rfl h) rfl g2
          obtain ⟨lv, M, h, hM, es, g0, g1, g2, g3⟩ : ∃ lv M, q4_run f 114 65 lv [] M 0 0 = some r ∧ qa_O M ∧ qa_s M = σ ∧ q4_get lv 0 = some (.ref 3) ∧ q4_get lv 1 = some (.int ((if s.2.2 < ((σ 7 s.1.toNatClampNeg) * r2) then s.1 else s.2.1))) ∧ q4_get lv 2 = some (.int ((if s.2.2 < ((σ 7 s.1.toNatClampNeg) * r2) then ((σ 7 s.1.toNatClampNeg) * r2) else s.2.2))) ∧ q4_get lv 3 = some (.int (s.1)) := by
            by_cases c4 : s.2.2 < ((σ 7 s.1.toNatClampNeg) * r2)
            · replace h := qa_iff (q := 60) (qa_e rfl h) rfl (qa_F_le c4)
              replace h := qa_iload (n := 3) (q := 61) (qa_e rfl h) rfl g3
              obtain ⟨lv, h, g, T⟩ := qa_istore (n := 1) (q := 62) (qa_e rfl h) rfl
              replace g0 := T _ _ g0 (by decide) (Or.inr rfl)
              replace g3 := T _ _ g3 (by decide) (Or.inr rfl)
              replace g4 := T _ _ g4 (by decide) (Or.inr rfl)
              have g1 := g
              clear g T
              replace h := qa_iload (n := 4) (q := 64) (qa_e rfl h) rfl g4
              obtain ⟨lv, h, g, T⟩ := qa_istore (n := 2) (q := 65) (qa_e rfl h) rfl
              replace g0 := T _ _ g0 (by decide) (Or.inr rfl)
              replace g1 := T _ _ g1 (by decide) (Or.inr rfl)
              replace g3 := T _ _ g3 (by decide) (Or.inr rfl)
              have g2 := g
              clear g T
              exact ⟨lv, M, h, hM, es, g0, (qa_gi1 c4 g1), (qa_gi1 c4 g2), g3⟩
            · replace h := qa_ift (q := 65) (qa_e rfl h) rfl (qa_T_le c4)
              exact ⟨lv, M, h, hM, es, g0, (qa_gi0 c4 g1), (qa_gi0 c4 g2), g3⟩
          exact ⟨lv, M, h, hM, es, g0, (qa_gi0 c3 g1), (qa_gi0 c3 g2), g3⟩
      obtain ⟨lv, h, g, T⟩ := qa_iinc (n := 3) (z := (1 : Int32)) (q := 68) (qa_e rfl h) rfl (by decide) g3
      replace g0 := T _ _ g0 (by decide) (Or.inr rfl)
      replace g1 := T _ _ g1 (by decide) (Or.inr rfl)
      replace g2 := T _ _ g2 (by decide) (Or.inr rfl)
      replace g3 := g
      clear g T
      replace h := qa_goto (q := 17) (qa_e rfl h) rfl
      have e0 : mc_114_3_p17 N σ s = .inl ((s.1 + (1 : Int32)), (if s.2.1 = (-9 : Int32) then s.1 else (if s.2.2 < ((σ 7 s.1.toNatClampNeg) * r2) then s.1 else s.2.1)), (if s.2.1 = (-9 : Int32) then ((σ 7 s.1.toNatClampNeg) * r2) else (if s.2.2 < ((σ 7 s.1.toNatClampNeg) * r2) then ((σ 7 s.1.toNatClampNeg) * r2) else s.2.2))) := by exact Eq.trans (if_pos c1) (Eq.trans (qa_ie er2) (rfl))
      rw [qa_whl e0]
      exact ih n hn (Nat.le_of_succ_le hF) ((s.1 + (1 : Int32)), (if s.2.1 = (-9 : Int32) then s.1 else (if s.2.2 < ((σ 7 s.1.toNatClampNeg) * r2) then s.1 else s.2.1)), (if s.2.1 = (-9 : Int32) then ((σ 7 s.1.toNatClampNeg) * r2) else (if s.2.2 < ((σ 7 s.1.toNatClampNeg) * r2) then ((σ 7 s.1.toNatClampNeg) * r2) else s.2.2))) _ _ hM es g0 g1 g2 g3 h
    · replace h := qa_ift (q := 71) (qa_e rfl h) rfl (qa_T_ge c1)
      have e0 : mc_114_3_p17 N σ s = .inr (s.1, s.2.1, s.2.2) := by exact Eq.trans (if_neg c1) (rfl)
      rw [qa_whr e0]
      exact ⟨_, _, q61_mono f F _ _ _ _ _ _ _ _ (Nat.le_of_succ_le hF) h, hM, es, g1⟩
/-- BuriedBySevens, strongest, ()I -/
noncomputable def ma_114_3 (N : Nat) (σ : qa_S) : Int32 :=
  qa_in ((ma_104_3 N σ)) fun r1 =>
  if r1 = (0 : Int32) then
    (-9 : Int32)
  else
    qa_in ((qa_wh (fun s => s) (mc_114_3_p17 N σ) N ((0 : Int32), (-9 : Int32), (0 : Int32)))) fun r3 =>
    r3.2.1
theorem mb_114_3 {f N : Nat} (hN : f ≤ N) {M : q4_M} {r : Option Value × q4_M} {σ : qa_S} (hM : qa_O M) (es : qa_s M = σ) (h : q4_run f 114 0 (lv_args 0 [.ref 3]) [] M 0 0 = some r) : r.1 = some (.int ((ma_114_3 N σ))) ∧ qa_O r.2 ∧ qa_s r.2 = σ := by
  obtain ⟨lv, el⟩ : ∃ l, l = lv_args 0 [.ref 3] := ⟨_, rfl⟩
  have g0 : q4_get lv 0 = some (.ref 3) := by rw [el]; rfl
  rw [← el] at h
  clear el
  replace h := qa_aload (n := 0) (q := 1) (qa_e rfl h) rfl g0
  obtain ⟨r1, er1⟩ : ∃ x, x = (ma_104_3 N σ) := ⟨_, rfl⟩
  obtain ⟨M, h, hM, es⟩ := qa_c1 (y := 104) (as := [.ref 3]) (rest := []) (i := .invokevirtual 104) (q := 4) (qa_e rfl h) (Or.inl rfl) rfl rfl (by decide) rfl (fun r hc => mb_104_3 hN hM es hc)
  rw [← er1] at h
  by_cases c2 : r1 = (0 : Int32)
  · replace h := qa_icf (q := 7) (qa_e rfl h) rfl (qa_F_ne c2)
    replace h := qa_push (z := (-9 : Int32)) (q := 9) (qa_e rfl h) rfl (by decide)
    have er := qa_ri (qa_e rfl h)
    subst er
    have e0 : ma_114_3 N σ = (-9 : Int32) := by exact Eq.trans (qa_ie er1) (Eq.trans (if_pos c2) (rfl))
    rw [e0]
    exact ⟨rfl, hM, es⟩
  · replace h := qa_ict (q := 10) (qa_e rfl h) rfl (qa_T_ne c2)
    replace h := qa_push (z := (-9 : Int32)) (q := 12) (qa_e rfl h) rfl (by decide)
    obtain ⟨lv, h, g, T⟩ := qa_istore (n := 1) (q := 13) (qa_e rfl h) rfl
    replace g0 := T _ _ g0 (by decide) (Or.inr rfl)
    have g1 := g
    clear g T
    replace h := qa_push (z := (0 : Int32)) (q := 14) (qa_e rfl h) rfl (by decide)
    obtain ⟨lv, h, g, T⟩ := qa_istore (n := 2) (q := 15) (qa_e rfl h) rfl
    replace g0 := T _ _ g0 (by decide) (Or.inr rfl)
    replace g1 := T _ _ g1 (by decide) (Or.inr rfl)
    have g2 := g
    clear g T
    replace h := qa_push (z := (0 : Int32)) (q := 16) (qa_e rfl h) rfl (by decide)
    obtain ⟨lv, h, g, T⟩ := qa_istore (n := 3) (q := 17) (qa_e rfl h) rfl
    replace g0 := T _ _ g0 (by decide) (Or.inr rfl)
    replace g1 := T _ _ g1 (by decide) (Or.inr rfl)
    replace g2 := T _ _ g2 (by decide) (Or.inr rfl)
    have g3 := g
    clear g T
    obtain ⟨r3, er3⟩ : ∃ x, x = (qa_wh (fun s => s) (mc_114_3_p17 N σ) N ((0 : Int32), (-9 : Int32), (0 : Int32))) := ⟨_, rfl⟩
    have L := md_114_3_p17 (σ := σ) (F := f) (N := N) (r := r) hN f N hN (Nat.le_refl f) ((0 : Int32), (-9 : Int32), (0 : Int32)) _ _ hM es g0 g1 g2 g3 h
    rw [← er3] at L
    obtain ⟨lv, M, h, hM, es, g1⟩ := L
    replace h := qa_iload (n := 1) (q := 72) (qa_e rfl h) rfl g1
    have er := qa_ri (qa_e rfl h)
    subst er
    have e0 : ma_114_3 N σ = r3.2.1 := by exact Eq.trans (qa_ie er1) (Eq.trans (if_neg c2) (Eq.trans (qa_ie er3) (rfl)))
    rw [e0]
    exact ⟨rfl, hM, es⟩
noncomputable def mc_115_3_p14 (N : Nat) (s : Int32 × Int32 × Int32 × qa_S) : (Int32 × Int32 × Int32 × qa_S) ⊕ (Int32 × Int32 × Int32 × qa_S) :=
  if s.1 < (s.2.2.2 4 1) then
    qa_in (qa_u s.2.2.2 25 s.1.toNatClampNeg (0 : Int32)) fun m2 =>
    qa_in ((ma_87_3 N (ma_60_3 m2) m2)) fun r3 =>
    qa_in (qa_u r3.2 25 s.1.toNatClampNeg (s.2.2.2 25 s.1.toNatClampNeg)) fun m4 =>
    .inl ((s.1 + (1 : Int32)), (if r3.1 < s.2.2.1 then s.1 else s.2.1), (if r3.1 < s.2.2.1 then r3.1 else s.2.2.1), m4)
  else
    .inr (s.1, s.2.1, s.2.2.1, s.2.2.2)
theorem md_115_3_p14 {N F : Nat} {r : Option Value × q4_M} (hN : F ≤ N) : ∀ f n, f ≤ n → f ≤ F → ∀ (s : Int32 × Int32 × Int32 × qa_S) (lv : List (Nat × Value)) (M : q4_M), qa_O M → qa_s M = s.2.2.2 → q4_get lv 0 = some (.ref 3) → q4_get lv 1 = some (.int (s.2.1)) → q4_get lv 2 = some (.int (s.2.2.1)) → q4_get lv 3 = some (.int (s.1)) → q4_run f 115 14 lv [] M 0 0 = some r → ∃ lv M, q4_run F 115 84 lv [] M 0 0 = some r ∧ qa_O M ∧ qa_s M = (qa_wh (fun s => s) (mc_115_3_p14 N) n s).2.2.2 ∧ q4_get lv 1 = some (.int ((qa_wh (fun s => s) (mc_115_3_p14 N) n s).2.1)) := by
  intro f
  induction f with
  | zero => intro n _ _ s lv M hM es _ _ _ _ h; cases h
  | succ f ih =>
    intro n hn hF s lv M hM es g0 g1 g2 g3 h
    obtain ⟨n, rfl⟩ : ∃ n1, n = n1 + 1 := ⟨n - 1, by omega⟩
    replace hn : f ≤ n := Nat.le_of_succ_le_succ hn
    have hN := Nat.le_trans (Nat.le_of_succ_le hF) hN
    replace h := qa_iload (n := 3) (q := 15) (qa_d rfl h) rfl g3
    replace h := qa_aload (n := 0) (q := 16) (qa_e rfl h) rfl g0
    replace h := qa_gr (b := 4) (j := 0) (q := 19) (qa_e rfl h) rfl hM rfl (by decide)
    replace h := qa_gi (j := 1) (q := 22) (qa_e rfl h) rfl hM es rfl (by decide)
    by_cases c1 : s.1 < (s.2.2.2 4 1)
    · replace h := qa_iff (q := 25) (qa_e rfl h) rfl (qa_F_ge c1)
      replace h := qa_aload (n := 0) (q := 26) (qa_e rfl h) rfl g0
      replace h := qa_gr (b := 4) (j := 0) (q := 29) (qa_e rfl h) rfl hM rfl (by decide)
      replace h := qa_gr (b := 25) (j := 8) (q := 32) (qa_e rfl h) rfl hM rfl (by decide)
      replace h := qa_iload (n := 3) (q := 33) (qa_e rfl h) rfl g3
      replace h := qa_iaload (jn := s.1.toNatClampNeg) (q := 34) (qa_e rfl h) rfl hM es rfl
      obtain ⟨lv, h, g, T⟩ := qa_istore (n := 4) (q := 36) (qa_e rfl h) rfl
      replace g0 := T _ _ g0 (by decide) (Or.inr rfl)
      replace g1 := T _ _ g1 (by decide) (Or.inr rfl)
      replace g2 := T _ _ g2 (by decide) (Or.inr rfl)
      replace g3 := T _ _ g3 (by decide) (Or.inr rfl)
      have g4 := g
      clear g T
      replace h := qa_aload (n := 0) (q := 37) (qa_e rfl h) rfl g0
      replace h := qa_gr (b := 4) (j := 0) (q := 40) (qa_e rfl h) rfl hM rfl (by decide)
      replace h := qa_gr (b := 25) (j := 8) (q := 43) (qa_e rfl h) rfl hM rfl (by decide)
      replace h := qa_iload (n := 3) (q := 44) (qa_e rfl h) rfl g3
      replace h := qa_push (z := (0 : Int32)) (q := 45) (qa_e rfl h) rfl (by decide)
      obtain ⟨m2, em2⟩ : ∃ x, x = qa_u s.2.2.2 25 s.1.toNatClampNeg (0 : Int32) := ⟨_, rfl⟩
      obtain ⟨M, h, hM, es⟩ := qa_iastore (jn := s.1.toNatClampNeg) (q := 46) (qa_e rfl h) rfl hM es rfl
      rw [← em2] at es
      replace h := qa_aload (n := 0) (q := 47) (qa_e rfl h) rfl g0
      replace h := qa_aload (n := 0) (q := 48) (qa_e rfl h) rfl g0
      obtain ⟨M, h, hM, es⟩ := qa_c1 (y := 60) (as := [.ref 3]) (rest := [.ref 3]) (i := .invokevirtual 60) (q := 51) (qa_e rfl h) (Or.inl rfl) rfl rfl (by decide) rfl (fun r hc => mb_60_3 hM es hc)
      obtain ⟨r3, er3⟩ : ∃ x, x = (ma_87_3 N (ma_60_3 m2) m2) := ⟨_, rfl⟩
      obtain ⟨M, h, hM, es⟩ := qa_c1 (y := 87) (as := [.ref 3, .int ((ma_60_3 m2))]) (rest := []) (i := .invokevirtual 87) (q := 54) (qa_e rfl h) (Or.inl rfl) rfl rfl (by decide) rfl (fun r hc => mb_87_3 hN hM es hc)
      rw [← er3] at h es
      obtain ⟨lv, h, g, T⟩ := qa_istore (n := 5) (q := 56) (qa_e rfl h) rfl
      replace g0 := T _ _ g0 (by decide) (Or.inr rfl)
      replace g1 := T _ _ g1 (by decide) (Or.inr rfl)
      replace g2 := T _ _ g2 (by decide) (Or.inr rfl)
      replace g3 := T _ _ g3 (by decide) (Or.inr rfl)
      replace g4 := T _ _ g4 (by decide) (Or.inr rfl)
      have g5 := g
      clear g T
      replace h := qa_aload (n := 0) (q := 57) (qa_e rfl h) rfl g0
      replace h := qa_gr (b := 4) (j := 0) (q := 60) (qa_e rfl h) rfl hM rfl (by decide)
      replace h := qa_gr (b := 25) (j := 8) (q := 63) (qa_e rfl h) rfl hM rfl (by decide)
      replace h := qa_iload (n := 3) (q := 64) (qa_e rfl h) rfl g3
      replace h := qa_iload (n := 4) (q := 66) (qa_e rfl h) rfl g4
      obtain ⟨m4, em4⟩ : ∃ x, x = qa_u r3.2 25 s.1.toNatClampNeg (s.2.2.2 25 s.1.toNatClampNeg) := ⟨_, rfl⟩
      obtain ⟨M, h, hM, es⟩ := qa_iastore (jn := s.1.toNatClampNeg) (q := 67) (qa_e rfl h) rfl hM es rfl
      rw [← em4] at es
      replace h := qa_iload (n := 5) (q := 69) (qa_e rfl h) rfl g5
      replace h := qa_iload (n := 2) (q := 70) (qa_e rfl h) rfl g2
      obtain ⟨lv, M, h, hM, es, g0, g1, g2, g3⟩ : ∃ lv M, q4_run f 115 78 lv [] M 0 0 = some r ∧ qa_O M ∧ qa_s M = m4 ∧ q4_get lv 0 = some (.ref 3) ∧ q4_get lv 1 = some (.int ((if r3.1 < s.2.2.1 then s.1 else s.2.1))) ∧ q4_get lv 2 = some (.int ((if r3.1 < s.2.2.1 then r3.1 else s.2.2.1))) ∧ q4_get lv 3 = some (.int (s.1)) := by
        by_cases c5 : r3.1 < s.2.2.1
        · replace h := qa_iff (q := 73) (qa_e rfl h) rfl (qa_F_ge c5)
          replace h := qa_iload (n := 3) (q := 74) (qa_e rfl h) rfl g3
          obtain ⟨lv, h, g, T⟩ := qa_istore (n := 1) (q := 75) (qa_e rfl h) rfl
          replace g0 := T _ _ g0 (by decide) (Or.inr rfl)
          replace g3 := T _ _ g3 (by decide) (Or.inr rfl)
          replace g5 := T _ _ g5 (by decide) (Or.inr rfl)
          have g1 := g
          clear g T
          replace h := qa_iload (n := 5) (q := 77) (qa_e rfl h) rfl g5
          obtain ⟨lv, h, g, T⟩ := qa_istore (n := 2) (q := 78) (qa_e rfl h) rfl
          replace g0 := T _ _ g0 (by decide) (Or.inr rfl)
          replace g1 := T _ _ g1 (by decide) (Or.inr rfl)
          replace g3 := T _ _ g3 (by decide) (Or.inr rfl)
          have g2 := g
          clear g T
          exact ⟨lv, M, h, hM, es, g0, (qa_gi1 c5 g1), (qa_gi1 c5 g2), g3⟩
        · replace h := qa_ift (q := 78) (qa_e rfl h) rfl (qa_T_ge c5)
          exact ⟨lv, M, h, hM, es, g0, (qa_gi0 c5 g1), (qa_gi0 c5 g2), g3⟩
      obtain ⟨lv, h, g, T⟩ := qa_iinc (n := 3) (z := (1 : Int32)) (q := 81) (qa_e rfl h) rfl (by decide) g3
      replace g0 := T _ _ g0 (by decide) (Or.inr rfl)
      replace g1 := T _ _ g1 (by decide) (Or.inr rfl)
      replace g2 := T _ _ g2 (by decide) (Or.inr rfl)
      replace g3 := g
      clear g T
      replace h := qa_goto (q := 14) (qa_e rfl h) rfl
      have e0 : mc_115_3_p14 N s = .inl ((s.1 + (1 : Int32)), (if r3.1 < s.2.2.1 then s.1 else s.2.1), (if r3.1 < s.2.2.1 then r3.1 else s.2.2.1), m4) := by exact Eq.trans (if_pos c1) (Eq.trans (qa_ie em2) (Eq.trans (qa_ie er3) (Eq.trans (qa_ie em4) (rfl))))
      rw [qa_whl e0]
      exact ih n hn (Nat.le_of_succ_le hF) ((s.1 + (1 : Int32)), (if r3.1 < s.2.2.1 then s.1 else s.2.1), (if r3.1 < s.2.2.1 then r3.1 else s.2.2.1), m4) _ _ hM es g0 g1 g2 g3 h
    · replace h := qa_ift (q := 84) (qa_e rfl h) rfl (qa_T_ge c1)
      have e0 : mc_115_3_p14 N s = .inr (s.1, s.2.1, s.2.2.1, s.2.2.2) := by exact Eq.trans (if_neg c1) (rfl)
      rw [qa_whr e0]
      exact ⟨_, _, q61_mono f F _ _ _ _ _ _ _ _ (Nat.le_of_succ_le hF) h, hM, es, g1⟩
/-- BuriedBySevens, sharper, ()I -/
noncomputable def ma_115_3 (N : Nat) (σ : qa_S) : Int32 × qa_S :=
  qa_in ((ma_87_3 N (ma_60_3 σ) σ)) fun r1 =>
  qa_in ((qa_wh (fun s => s) (mc_115_3_p14 N) N ((0 : Int32), (-9 : Int32), r1.1, r1.2))) fun r2 =>
  (r2.2.1, r2.2.2.2)
theorem mb_115_3 {f N : Nat} (hN : f ≤ N) {M : q4_M} {r : Option Value × q4_M} {σ : qa_S} (hM : qa_O M) (es : qa_s M = σ) (h : q4_run f 115 0 (lv_args 0 [.ref 3]) [] M 0 0 = some r) : r.1 = some (.int ((ma_115_3 N σ).1)) ∧ qa_O r.2 ∧ qa_s r.2 = (ma_115_3 N σ).2 := by
  obtain ⟨lv, el⟩ : ∃ l, l = lv_args 0 [.ref 3] := ⟨_, rfl⟩
  have g0 : q4_get lv 0 = some (.ref 3) := by rw [el]; rfl
  rw [← el] at h
  clear el
  replace h := qa_push (z := (-9 : Int32)) (q := 2) (qa_e rfl h) rfl (by decide)
  obtain ⟨lv, h, g, T⟩ := qa_istore (n := 1) (q := 3) (qa_e rfl h) rfl
  replace g0 := T _ _ g0 (by decide) (Or.inr rfl)
  have g1 := g
  clear g T
  replace h := qa_aload (n := 0) (q := 4) (qa_e rfl h) rfl g0
  replace h := qa_aload (n := 0) (q := 5) (qa_e rfl h) rfl g0
  obtain ⟨M, h, hM, es⟩ := qa_c1 (y := 60) (as := [.ref 3]) (rest := [.ref 3]) (i := .invokevirtual 60) (q := 8) (qa_e rfl h) (Or.inl rfl) rfl rfl (by decide) rfl (fun r hc => mb_60_3 hM es hc)
  obtain ⟨r1, er1⟩ : ∃ x, x = (ma_87_3 N (ma_60_3 σ) σ) := ⟨_, rfl⟩
  obtain ⟨M, h, hM, es⟩ := qa_c1 (y := 87) (as := [.ref 3, .int ((ma_60_3 σ))]) (rest := []) (i := .invokevirtual 87) (q := 11) (qa_e rfl h) (Or.inl rfl) rfl rfl (by decide) rfl (fun r hc => mb_87_3 hN hM es hc)
  rw [← er1] at h es
  obtain ⟨lv, h, g, T⟩ := qa_istore (n := 2) (q := 12) (qa_e rfl h) rfl
  replace g0 := T _ _ g0 (by decide) (Or.inr rfl)
  replace g1 := T _ _ g1 (by decide) (Or.inr rfl)
  have g2 := g
  clear g T
  replace h := qa_push (z := (0 : Int32)) (q := 13) (qa_e rfl h) rfl (by decide)
  obtain ⟨lv, h, g, T⟩ := qa_istore (n := 3) (q := 14) (qa_e rfl h) rfl
  replace g0 := T _ _ g0 (by decide) (Or.inr rfl)
  replace g1 := T _ _ g1 (by decide) (Or.inr rfl)
  replace g2 := T _ _ g2 (by decide) (Or.inr rfl)
  have g3 := g
  clear g T
  obtain ⟨r2, er2⟩ : ∃ x, x = (qa_wh (fun s => s) (mc_115_3_p14 N) N ((0 : Int32), (-9 : Int32), r1.1, r1.2)) := ⟨_, rfl⟩
  have L := md_115_3_p14 (F := f) (N := N) (r := r) hN f N hN (Nat.le_refl f) ((0 : Int32), (-9 : Int32), r1.1, r1.2) _ _ hM es g0 g1 g2 g3 h
  rw [← er2] at L
  obtain ⟨lv, M, h, hM, es, g1⟩ := L
  replace h := qa_iload (n := 1) (q := 85) (qa_e rfl h) rfl g1
  have er := qa_ri (qa_e rfl h)
  subst er
  have e0 : ma_115_3 N σ = (r2.2.1, r2.2.2.2) := by exact Eq.trans (qa_ie er1) (Eq.trans (qa_ie er2) (rfl))
  rw [e0]
  exact ⟨rfl, hM, es⟩
/-- BuriedBySevens, mixWithShare, (II)V -/
noncomputable def ma_117_3 (N : Nat) (a1 : Int32) (a2 : Int32) (σ : qa_S) : qa_S :=
  qa_in (qa_u σ 7 a1.toNatClampNeg a2) fun m1 =>
  qa_in ((ma_47_4 N 7 (-1 : Int32) (0 : Int32) 95 m1)) fun m2 =>
  qa_in (qa_u m2 7 a1.toNatClampNeg (σ 7 a1.toNatClampNeg)) fun m3 =>
  m3
theorem mb_117_3 {f N : Nat} (hN : f ≤ N) {M : q4_M} {r : Option Value × q4_M} {σ : qa_S} {a1 : Int32} {a2 : Int32} (hM : qa_O M) (es : qa_s M = σ) (h : q4_run f 117 0 (lv_args 0 [.ref 3, .int (a1), .int (a2)]) [] M 0 0 = some r) : r.1 = none ∧ qa_O r.2 ∧ qa_s r.2 = (ma_117_3 N a1 a2 σ) := by
  obtain ⟨lv, el⟩ : ∃ l, l = lv_args 0 [.ref 3, .int (a1), .int (a2)] := ⟨_, rfl⟩
  have g0 : q4_get lv 0 = some (.ref 3) := by rw [el]; rfl
  have g1 : q4_get lv 1 = some (.int (a1)) := by rw [el]; rfl
  have g2 : q4_get lv 2 = some (.int (a2)) := by rw [el]; rfl
  rw [← el] at h
  clear el
  replace h := qa_aload (n := 0) (q := 1) (qa_e rfl h) rfl g0
  replace h := qa_gr (b := 4) (j := 0) (q := 4) (qa_e rfl h) rfl hM rfl (by decide)
  replace h := qa_gr (b := 7) (j := 4) (q := 7) (qa_e rfl h) rfl hM rfl (by decide)
  replace h := qa_iload (n := 1) (q := 8) (qa_e rfl h) rfl g1
  replace h := qa_iaload (jn := a1.toNatClampNeg) (q := 9) (qa_e rfl h) rfl hM es rfl
  obtain ⟨lv, h, g, T⟩ := qa_istore (n := 3) (q := 10) (qa_e rfl h) rfl
  replace g0 := T _ _ g0 (by decide) (Or.inr rfl)
  replace g1 := T _ _ g1 (by decide) (Or.inr rfl)
  replace g2 := T _ _ g2 (by decide) (Or.inr rfl)
  have g3 := g
  clear g T
  replace h := qa_aload (n := 0) (q := 11) (qa_e rfl h) rfl g0
  replace h := qa_gr (b := 4) (j := 0) (q := 14) (qa_e rfl h) rfl hM rfl (by decide)
  replace h := qa_gr (b := 7) (j := 4) (q := 17) (qa_e rfl h) rfl hM rfl (by decide)
  replace h := qa_iload (n := 1) (q := 18) (qa_e rfl h) rfl g1
  replace h := qa_iload (n := 2) (q := 19) (qa_e rfl h) rfl g2
  obtain ⟨m1, em1⟩ : ∃ x, x = qa_u σ 7 a1.toNatClampNeg a2 := ⟨_, rfl⟩
  obtain ⟨M, h, hM, es⟩ := qa_iastore (jn := a1.toNatClampNeg) (q := 20) (qa_e rfl h) rfl hM es rfl
  rw [← em1] at es
  replace h := qa_aload (n := 0) (q := 21) (qa_e rfl h) rfl g0
  replace h := qa_gr (b := 4) (j := 0) (q := 24) (qa_e rfl h) rfl hM rfl (by decide)
  replace h := qa_aload (n := 0) (q := 25) (qa_e rfl h) rfl g0
  replace h := qa_gr (b := 4) (j := 0) (q := 28) (qa_e rfl h) rfl hM rfl (by decide)
  replace h := qa_gr (b := 7) (j := 4) (q := 31) (qa_e rfl h) rfl hM rfl (by decide)
  replace h := qa_push (z := (-1 : Int32)) (q := 32) (qa_e rfl h) rfl (by decide)
  replace h := qa_push (z := (0 : Int32)) (q := 33) (qa_e rfl h) rfl (by decide)
  replace h := qa_aload (n := 0) (q := 34) (qa_e rfl h) rfl g0
  replace h := qa_gr (b := 95) (j := 12) (q := 37) (qa_e rfl h) rfl hM rfl (by decide)
  obtain ⟨m2, em2⟩ : ∃ x, x = (ma_47_4 N 7 (-1 : Int32) (0 : Int32) 95 m1) := ⟨_, rfl⟩
  obtain ⟨M, h, hM, es⟩ := qa_c0 (y := 47) (as := [.ref 4, .ref 7, .int ((-1 : Int32)), .int ((0 : Int32)), .ref 95]) (rest := []) (i := .invokevirtual 47) (q := 40) (qa_e rfl h) (Or.inl rfl) rfl rfl (by decide) rfl (fun r hc => mb_47_4 hN hM es hc)
  rw [← em2] at es
  replace h := qa_aload (n := 0) (q := 41) (qa_e rfl h) rfl g0
  replace h := qa_gr (b := 4) (j := 0) (q := 44) (qa_e rfl h) rfl hM rfl (by decide)
  replace h := qa_gr (b := 7) (j := 4) (q := 47) (qa_e rfl h) rfl hM rfl (by decide)
  replace h := qa_iload (n := 1) (q := 48) (qa_e rfl h) rfl g1
  replace h := qa_iload (n := 3) (q := 49) (qa_e rfl h) rfl g3
  obtain ⟨m3, em3⟩ : ∃ x, x = qa_u m2 7 a1.toNatClampNeg (σ 7 a1.toNatClampNeg) := ⟨_, rfl⟩
  obtain ⟨M, h, hM, es⟩ := qa_iastore (jn := a1.toNatClampNeg) (q := 50) (qa_e rfl h) rfl hM es rfl
  rw [← em3] at es
  have er := qa_rv (qa_e rfl h)
  subst er
  have e0 : ma_117_3 N a1 a2 σ = m3 := by exact Eq.trans (qa_ie em1) (Eq.trans (qa_ie em2) (Eq.trans (qa_ie em3) (rfl)))
  rw [e0]
  exact ⟨rfl, hM, es⟩
noncomputable def mc_116_3_p14 (N : Nat) (s : Int32 × Int32 × Int32 × qa_S) : (Int32 × Int32 × Int32 × qa_S) ⊕ (Int32 × Int32 × Int32 × qa_S) :=
  if s.1 < (s.2.2.2 4 0) then
    qa_in ((ma_117_3 N s.1 ((s.2.2.2 7 s.1.toNatClampNeg) + (1 : Int32)) s.2.2.2)) fun m3 =>
    qa_in ((ma_66_3 N (ma_60_3 m3) 95 m3)) fun m4 =>
    qa_in ((ma_72_3 N m4)) fun m5 =>
    qa_in ((ma_75_73_80 N m5)) fun r6 =>
    qa_in ((if (s.2.2.2 7 s.1.toNatClampNeg) < (9 : Int32) then m5 else s.2.2.2)) fun m8 =>
    .inl ((s.1 + (1 : Int32)), (if (s.2.2.2 7 s.1.toNatClampNeg) < (9 : Int32) then (if r6 < s.2.2.1 then s.1 else s.2.1) else s.2.1), (if (s.2.2.2 7 s.1.toNatClampNeg) < (9 : Int32) then (if r6 < s.2.2.1 then r6 else s.2.2.1) else s.2.2.1), m8)
  else
    .inr (s.1, s.2.1, s.2.2.1, s.2.2.2)
theorem md_116_3_p14 {N F : Nat} {r : Option Value × q4_M} (hN : F ≤ N) : ∀ f n, f ≤ n → f ≤ F → ∀ (s : Int32 × Int32 × Int32 × qa_S) (lv : List (Nat × Value)) (M : q4_M), qa_O M → qa_s M = s.2.2.2 → q4_get lv 0 = some (.ref 3) → q4_get lv 1 = some (.int (s.2.1)) → q4_get lv 2 = some (.int (s.2.2.1)) → q4_get lv 3 = some (.int (s.1)) → q4_run f 116 14 lv [] M 0 0 = some r → ∃ lv M, q4_run F 116 100 lv [] M 0 0 = some r ∧ qa_O M ∧ qa_s M = (qa_wh (fun s => s) (mc_116_3_p14 N) n s).2.2.2 ∧ q4_get lv 1 = some (.int ((qa_wh (fun s => s) (mc_116_3_p14 N) n s).2.1)) := by
  intro f
  induction f with
  | zero => intro n _ _ s lv M hM es _ _ _ _ h; cases h
  | succ f ih =>
    intro n hn hF s lv M hM es g0 g1 g2 g3 h
    obtain ⟨n, rfl⟩ : ∃ n1, n = n1 + 1 := ⟨n - 1, by omega⟩
    replace hn : f ≤ n := Nat.le_of_succ_le_succ hn
    have hN := Nat.le_trans (Nat.le_of_succ_le hF) hN
    replace h := qa_iload (n := 3) (q := 15) (qa_d rfl h) rfl g3
    replace h := qa_aload (n := 0) (q := 16) (qa_e rfl h) rfl g0
    replace h := qa_gr (b := 4) (j := 0) (q := 19) (qa_e rfl h) rfl hM rfl (by decide)
    replace h := qa_gi (j := 0) (q := 22) (qa_e rfl h) rfl hM es rfl (by decide)
    by_cases c1 : s.1 < (s.2.2.2 4 0)
    · replace h := qa_iff (q := 25) (qa_e rfl h) rfl (qa_F_ge c1)
      replace h := qa_aload (n := 0) (q := 26) (qa_e rfl h) rfl g0
      replace h := qa_gr (b := 4) (j := 0) (q := 29) (qa_e rfl h) rfl hM rfl (by decide)
      replace h := qa_gr (b := 7) (j := 4) (q := 32) (qa_e rfl h) rfl hM rfl (by decide)
      replace h := qa_iload (n := 3) (q := 33) (qa_e rfl h) rfl g3
      replace h := qa_iaload (jn := s.1.toNatClampNeg) (q := 34) (qa_e rfl h) rfl hM es rfl
      replace h := qa_push (z := (9 : Int32)) (q := 36) (qa_e rfl h) rfl (by decide)
      obtain ⟨m3, em3⟩ : ∃ x, x = (ma_117_3 N s.1 ((s.2.2.2 7 s.1.toNatClampNeg) + (1 : Int32)) s.2.2.2) := ⟨_, rfl⟩
      obtain ⟨m4, em4⟩ : ∃ x, x = (ma_66_3 N (ma_60_3 m3) 95 m3) := ⟨_, rfl⟩
      obtain ⟨m5, em5⟩ : ∃ x, x = (ma_72_3 N m4) := ⟨_, rfl⟩
      obtain ⟨r6, er6⟩ : ∃ x, x = (ma_75_73_80 N m5) := ⟨_, rfl⟩
      obtain ⟨m8, em8⟩ : ∃ x, x = (if (s.2.2.2 7 s.1.toNatClampNeg) < (9 : Int32) then m5 else s.2.2.2) := ⟨_, rfl⟩
      obtain ⟨lv, M, h, hM, es, g0, g1, g2, g3⟩ : ∃ lv M, q4_run f 116 94 lv [] M 0 0 = some r ∧ qa_O M ∧ qa_s M = m8 ∧ q4_get lv 0 = some (.ref 3) ∧ q4_get lv 1 = some (.int ((if (s.2.2.2 7 s.1.toNatClampNeg) < (9 : Int32) then (if r6 < s.2.2.1 then s.1 else s.2.1) else s.2.1))) ∧ q4_get lv 2 = some (.int ((if (s.2.2.2 7 s.1.toNatClampNeg) < (9 : Int32) then (if r6 < s.2.2.1 then r6 else s.2.2.1) else s.2.2.1))) ∧ q4_get lv 3 = some (.int (s.1)) := by
        by_cases c2 : (s.2.2.2 7 s.1.toNatClampNeg) < (9 : Int32)
        · replace h := qa_ift (q := 42) (qa_e rfl h) rfl (qa_T_lt c2)
          replace h := qa_aload (n := 0) (q := 43) (qa_e rfl h) rfl g0
          replace h := qa_iload (n := 3) (q := 44) (qa_e rfl h) rfl g3
          replace h := qa_aload (n := 0) (q := 45) (qa_e rfl h) rfl g0
          replace h := qa_gr (b := 4) (j := 0) (q := 48) (qa_e rfl h) rfl hM rfl (by decide)
          replace h := qa_gr (b := 7) (j := 4) (q := 51) (qa_e rfl h) rfl hM rfl (by decide)
          replace h := qa_iload (n := 3) (q := 52) (qa_e rfl h) rfl g3
          replace h := qa_iaload (jn := s.1.toNatClampNeg) (q := 53) (qa_e rfl h) rfl hM es rfl
          replace h := qa_push (z := (1 : Int32)) (q := 54) (qa_e rfl h) rfl (by decide)
          replace h := qa_iadd (q := 55) (qa_e rfl h) rfl
          obtain ⟨M, h, hM, es⟩ := qa_c0 (y := 117) (as := [.ref 3, .int (s.1), .int (((s.2.2.2 7 s.1.toNatClampNeg) + (1 : Int32)))]) (rest := []) (i := .invokevirtual 117) (q := 58) (qa_e rfl h) (Or.inl rfl) rfl rfl (by decide) rfl (fun r hc => mb_117_3 hN hM es hc)
          rw [← em3] at es
          replace h := qa_aload (n := 0) (q := 59) (qa_e rfl h) rfl g0
          replace h := qa_aload (n := 0) (q := 60) (qa_e rfl h) rfl g0
          obtain ⟨M, h, hM, es⟩ := qa_c1 (y := 60) (as := [.ref 3]) (rest := [.ref 3]) (i := .invokevirtual 60) (q := 63) (qa_e rfl h) (Or.inl rfl) rfl rfl (by decide) rfl (fun r hc => mb_60_3 hM es hc)
          replace h := qa_aload (n := 0) (q := 64) (qa_e rfl h) rfl g0
          replace h := qa_gr (b := 95) (j := 12) (q := 67) (qa_e rfl h) rfl hM rfl (by decide)
          obtain ⟨M, h, hM, es⟩ := qa_c0 (y := 66) (as := [.ref 3, .int ((ma_60_3 m3)), .ref 95]) (rest := []) (i := .invokevirtual 66) (q := 70) (qa_e rfl h) (Or.inl rfl) rfl rfl (by decide) rfl (fun r hc => mb_66_3 hN hM es hc)
          rw [← em4] at es
          replace h := qa_aload (n := 0) (q := 71) (qa_e rfl h) rfl g0
          obtain ⟨M, h, hM, es⟩ := qa_c1 (y := 72) (as := [.ref 3]) (rest := []) (i := .invokevirtual 72) (q := 74) (qa_e rfl h) (Or.inl rfl) rfl rfl (by decide) rfl (fun r hc => mb_72_3 hN hM es hc)
          rw [← em5] at es
          replace h := qa_aload (n := 0) (q := 75) (qa_e rfl h) rfl g0
          replace h := qa_gr (b := 80) (j := 4) (q := 78) (qa_e rfl h) rfl hM rfl (by decide)
          obtain ⟨M, h, hM, es⟩ := qa_c1 (y := 75) (as := [.ref 73, .ref 80]) (rest := []) (i := .invokevirtual 75) (q := 81) (qa_e rfl h) (Or.inl rfl) rfl rfl (by decide) rfl (fun r hc => mb_75_73_80 hN hM es hc)
          rw [← er6] at h
          obtain ⟨lv, h, g, T⟩ := qa_istore (n := 4) (q := 83) (qa_e rfl h) rfl
          replace g0 := T _ _ g0 (by decide) (Or.inr rfl)
          replace g1 := T _ _ g1 (by decide) (Or.inr rfl)
          replace g2 := T _ _ g2 (by decide) (Or.inr rfl)
          replace g3 := T _ _ g3 (by decide) (Or.inr rfl)
          have g4 := g
          clear g T
          replace h := qa_iload (n := 4) (q := 85) (qa_e rfl h) rfl g4
          replace h := qa_iload (n := 2) (q := 86) (qa_e rfl h) rfl g2
          obtain ⟨lv, M, h, hM, es, g0, g1, g2, g3⟩ : ∃ lv M, q4_run f 116 94 lv [] M 0 0 = some r ∧ qa_O M ∧ qa_s M = m5 ∧ q4_get lv 0 = some (.ref 3) ∧ q4_get lv 1 = some (.int ((if r6 < s.2.2.1 then s.1 else s.2.1))) ∧ q4_get lv 2 = some (.int ((if r6 < s.2.2.1 then r6 else s.2.2.1))) ∧ q4_get lv 3 = some (.int (s.1)) := by
            by_cases c7 : r6 < s.2.2.1
            · replace h := qa_iff (q := 89) (qa_e rfl h) rfl (qa_F_ge c7)
              replace h := qa_iload (n := 3) (q := 90) (qa_e rfl h) rfl g3
              obtain ⟨lv, h, g, T⟩ := qa_istore (n := 1) (q := 91) (qa_e rfl h) rfl
              replace g0 := T _ _ g0 (by decide) (Or.inr rfl)
              replace g3 := T _ _ g3 (by decide) (Or.inr rfl)
              replace g4 := T _ _ g4 (by decide) (Or.inr rfl)
              have g1 := g
              clear g T
              replace h := qa_iload (n := 4) (q := 93) (qa_e rfl h) rfl g4
              obtain ⟨lv, h, g, T⟩ := qa_istore (n := 2) (q := 94) (qa_e rfl h) rfl
              replace g0 := T _ _ g0 (by decide) (Or.inr rfl)
              replace g1 := T _ _ g1 (by decide) (Or.inr rfl)
              replace g3 := T _ _ g3 (by decide) (Or.inr rfl)
              have g2 := g
              clear g T
              exact ⟨lv, M, h, hM, es, g0, (qa_gi1 c7 g1), (qa_gi1 c7 g2), g3⟩
            · replace h := qa_ift (q := 94) (qa_e rfl h) rfl (qa_T_ge c7)
              exact ⟨lv, M, h, hM, es, g0, (qa_gi0 c7 g1), (qa_gi0 c7 g2), g3⟩
          exact ⟨lv, M, h, hM, ((qa_ms1 c2 es).trans em8.symm), g0, (qa_gi1 c2 g1), (qa_gi1 c2 g2), g3⟩
        · replace h := qa_iff (q := 39) (qa_e rfl h) rfl (qa_F_lt c2)
          replace h := qa_goto (q := 94) (qa_e rfl h) rfl
          exact ⟨lv, M, h, hM, ((qa_ms0 c2 es).trans em8.symm), g0, (qa_gi0 c2 g1), (qa_gi0 c2 g2), g3⟩
      obtain ⟨lv, h, g, T⟩ := qa_iinc (n := 3) (z := (1 : Int32)) (q := 97) (qa_e rfl h) rfl (by decide) g3
      replace g0 := T _ _ g0 (by decide) (Or.inr rfl)
      replace g1 := T _ _ g1 (by decide) (Or.inr rfl)
      replace g2 := T _ _ g2 (by decide) (Or.inr rfl)
      replace g3 := g
      clear g T
      replace h := qa_goto (q := 14) (qa_e rfl h) rfl
      have e0 : mc_116_3_p14 N s = .inl ((s.1 + (1 : Int32)), (if (s.2.2.2 7 s.1.toNatClampNeg) < (9 : Int32) then (if r6 < s.2.2.1 then s.1 else s.2.1) else s.2.1), (if (s.2.2.2 7 s.1.toNatClampNeg) < (9 : Int32) then (if r6 < s.2.2.1 then r6 else s.2.2.1) else s.2.2.1), m8) := by exact Eq.trans (if_pos c1) (Eq.trans (qa_ie em3) (Eq.trans (qa_ie em4) (Eq.trans (qa_ie em5) (Eq.trans (qa_ie er6) (Eq.trans (qa_ie em8) (rfl))))))
      rw [qa_whl e0]
      exact ih n hn (Nat.le_of_succ_le hF) ((s.1 + (1 : Int32)), (if (s.2.2.2 7 s.1.toNatClampNeg) < (9 : Int32) then (if r6 < s.2.2.1 then s.1 else s.2.1) else s.2.1), (if (s.2.2.2 7 s.1.toNatClampNeg) < (9 : Int32) then (if r6 < s.2.2.1 then r6 else s.2.2.1) else s.2.2.1), m8) _ _ hM es g0 g1 g2 g3 h
    · replace h := qa_ift (q := 100) (qa_e rfl h) rfl (qa_T_ge c1)
      have e0 : mc_116_3_p14 N s = .inr (s.1, s.2.1, s.2.2.1, s.2.2.2) := by exact Eq.trans (if_neg c1) (rfl)
      rw [qa_whr e0]
      exact ⟨_, _, q61_mono f F _ _ _ _ _ _ _ _ (Nat.le_of_succ_le hF) h, hM, es, g1⟩
/-- BuriedBySevens, more, ()I -/
noncomputable def ma_116_3 (N : Nat) (σ : qa_S) : Int32 × qa_S :=
  qa_in ((ma_87_3 N (ma_60_3 σ) σ)) fun r1 =>
  qa_in ((qa_wh (fun s => s) (mc_116_3_p14 N) N ((0 : Int32), (-9 : Int32), r1.1, r1.2))) fun r2 =>
  (r2.2.1, r2.2.2.2)
theorem mb_116_3 {f N : Nat} (hN : f ≤ N) {M : q4_M} {r : Option Value × q4_M} {σ : qa_S} (hM : qa_O M) (es : qa_s M = σ) (h : q4_run f 116 0 (lv_args 0 [.ref 3]) [] M 0 0 = some r) : r.1 = some (.int ((ma_116_3 N σ).1)) ∧ qa_O r.2 ∧ qa_s r.2 = (ma_116_3 N σ).2 := by
  obtain ⟨lv, el⟩ : ∃ l, l = lv_args 0 [.ref 3] := ⟨_, rfl⟩
  have g0 : q4_get lv 0 = some (.ref 3) := by rw [el]; rfl
  rw [← el] at h
  clear el
  replace h := qa_push (z := (-9 : Int32)) (q := 2) (qa_e rfl h) rfl (by decide)
  obtain ⟨lv, h, g, T⟩ := qa_istore (n := 1) (q := 3) (qa_e rfl h) rfl
  replace g0 := T _ _ g0 (by decide) (Or.inr rfl)
  have g1 := g
  clear g T
  replace h := qa_aload (n := 0) (q := 4) (qa_e rfl h) rfl g0
  replace h := qa_aload (n := 0) (q := 5) (qa_e rfl h) rfl g0
  obtain ⟨M, h, hM, es⟩ := qa_c1 (y := 60) (as := [.ref 3]) (rest := [.ref 3]) (i := .invokevirtual 60) (q := 8) (qa_e rfl h) (Or.inl rfl) rfl rfl (by decide) rfl (fun r hc => mb_60_3 hM es hc)
  obtain ⟨r1, er1⟩ : ∃ x, x = (ma_87_3 N (ma_60_3 σ) σ) := ⟨_, rfl⟩
  obtain ⟨M, h, hM, es⟩ := qa_c1 (y := 87) (as := [.ref 3, .int ((ma_60_3 σ))]) (rest := []) (i := .invokevirtual 87) (q := 11) (qa_e rfl h) (Or.inl rfl) rfl rfl (by decide) rfl (fun r hc => mb_87_3 hN hM es hc)
  rw [← er1] at h es
  obtain ⟨lv, h, g, T⟩ := qa_istore (n := 2) (q := 12) (qa_e rfl h) rfl
  replace g0 := T _ _ g0 (by decide) (Or.inr rfl)
  replace g1 := T _ _ g1 (by decide) (Or.inr rfl)
  have g2 := g
  clear g T
  replace h := qa_push (z := (0 : Int32)) (q := 13) (qa_e rfl h) rfl (by decide)
  obtain ⟨lv, h, g, T⟩ := qa_istore (n := 3) (q := 14) (qa_e rfl h) rfl
  replace g0 := T _ _ g0 (by decide) (Or.inr rfl)
  replace g1 := T _ _ g1 (by decide) (Or.inr rfl)
  replace g2 := T _ _ g2 (by decide) (Or.inr rfl)
  have g3 := g
  clear g T
  obtain ⟨r2, er2⟩ : ∃ x, x = (qa_wh (fun s => s) (mc_116_3_p14 N) N ((0 : Int32), (-9 : Int32), r1.1, r1.2)) := ⟨_, rfl⟩
  have L := md_116_3_p14 (F := f) (N := N) (r := r) hN f N hN (Nat.le_refl f) ((0 : Int32), (-9 : Int32), r1.1, r1.2) _ _ hM es g0 g1 g2 g3 h
  rw [← er2] at L
  obtain ⟨lv, M, h, hM, es, g1⟩ := L
  replace h := qa_iload (n := 1) (q := 101) (qa_e rfl h) rfl g1
  have er := qa_ri (qa_e rfl h)
  subst er
  have e0 : ma_116_3 N σ = (r2.2.1, r2.2.2.2) := by exact Eq.trans (qa_ie er1) (Eq.trans (qa_ie er2) (rfl))
  rw [e0]
  exact ⟨rfl, hM, es⟩
noncomputable def mc_118_3_p21 (N : Nat) (l1 : Int32) (σ : qa_S) (s : Int32 × Int32 × Int32) : (Int32 × Int32 × Int32) ⊕ (Int32 × Int32 × Int32) :=
  if s.1 < (σ 4 0) then
    .inl ((s.1 + (1 : Int32)), (ma_71 s.2.1 (σ (17 + s.1.toNatClampNeg) l1.toNatClampNeg)), (ma_70 s.2.2 (σ (17 + s.1.toNatClampNeg) l1.toNatClampNeg)))
  else
    .inr (s.1, s.2.1, s.2.2)
theorem md_118_3_p21 {N F : Nat} {r : Option Value × q4_M} {l1 : Int32} {σ : qa_S} (hN : F ≤ N) : ∀ f n, f ≤ n → f ≤ F → ∀ (s : Int32 × Int32 × Int32) (lv : List (Nat × Value)) (M : q4_M), qa_O M → qa_s M = σ → q4_get lv 0 = some (.ref 3) → q4_get lv 1 = some (.int (l1)) → q4_get lv 2 = some (.int (s.2.1)) → q4_get lv 3 = some (.int (s.2.2)) → q4_get lv 4 = some (.int (s.1)) → q4_run f 118 21 lv [] M 0 0 = some r → ∃ lv M, q4_run F 118 73 lv [] M 0 0 = some r ∧ qa_O M ∧ qa_s M = σ ∧ q4_get lv 0 = some (.ref 3) ∧ q4_get lv 2 = some (.int ((qa_wh (fun s => s) (mc_118_3_p21 N l1 σ) n s).2.1)) ∧ q4_get lv 3 = some (.int ((qa_wh (fun s => s) (mc_118_3_p21 N l1 σ) n s).2.2)) := by
  intro f
  induction f with
  | zero => intro n _ _ s lv M hM es _ _ _ _ _ h; cases h
  | succ f ih =>
    intro n hn hF s lv M hM es g0 g1 g2 g3 g4 h
    obtain ⟨n, rfl⟩ : ∃ n1, n = n1 + 1 := ⟨n - 1, by omega⟩
    replace hn : f ≤ n := Nat.le_of_succ_le_succ hn
    have hN := Nat.le_trans (Nat.le_of_succ_le hF) hN
    replace h := qa_iload (n := 4) (q := 23) (qa_d rfl h) rfl g4
    replace h := qa_aload (n := 0) (q := 24) (qa_e rfl h) rfl g0
    replace h := qa_gr (b := 4) (j := 0) (q := 27) (qa_e rfl h) rfl hM rfl (by decide)
    replace h := qa_gi (j := 0) (q := 30) (qa_e rfl h) rfl hM es rfl (by decide)
    by_cases c1 : s.1 < (σ 4 0)
    · replace h := qa_iff (q := 33) (qa_e rfl h) rfl (qa_F_ge c1)
      replace h := qa_iload (n := 2) (q := 34) (qa_e rfl h) rfl g2
      replace h := qa_aload (n := 0) (q := 35) (qa_e rfl h) rfl g0
      replace h := qa_gr (b := 4) (j := 0) (q := 38) (qa_e rfl h) rfl hM rfl (by decide)
      replace h := qa_gr (b := 16) (j := 6) (q := 41) (qa_e rfl h) rfl hM rfl (by decide)
      replace h := qa_iload (n := 4) (q := 43) (qa_e rfl h) rfl g4
      replace h := qa_aaload (b := 17) (jn := s.1.toNatClampNeg) (q := 44) (qa_e rfl h) rfl hM rfl (by decide) (by decide +kernel)
      replace h := qa_iload (n := 1) (q := 45) (qa_e rfl h) rfl g1
      replace h := qa_iaload (jn := l1.toNatClampNeg) (q := 46) (qa_e rfl h) rfl hM es rfl
      obtain ⟨M, h, hM, es⟩ := qa_c1 (y := 71) (as := [.int (s.2.1), .int ((σ (17 + s.1.toNatClampNeg) l1.toNatClampNeg))]) (rest := []) (i := .invokestatic 71) (q := 49) (qa_e rfl h) (Or.inr rfl) rfl rfl (by decide) rfl (fun r hc => mb_71 hM es hc)
      obtain ⟨lv, h, g, T⟩ := qa_istore (n := 2) (q := 50) (qa_e rfl h) rfl
      replace g0 := T _ _ g0 (by decide) (Or.inr rfl)
      replace g1 := T _ _ g1 (by decide) (Or.inr rfl)
      replace g3 := T _ _ g3 (by decide) (Or.inr rfl)
      replace g4 := T _ _ g4 (by decide) (Or.inr rfl)
      have g2 := g
      clear g T
      replace h := qa_iload (n := 3) (q := 51) (qa_e rfl h) rfl g3
      replace h := qa_aload (n := 0) (q := 52) (qa_e rfl h) rfl g0
      replace h := qa_gr (b := 4) (j := 0) (q := 55) (qa_e rfl h) rfl hM rfl (by decide)
      replace h := qa_gr (b := 16) (j := 6) (q := 58) (qa_e rfl h) rfl hM rfl (by decide)
      replace h := qa_iload (n := 4) (q := 60) (qa_e rfl h) rfl g4
      replace h := qa_aaload (b := 17) (jn := s.1.toNatClampNeg) (q := 61) (qa_e rfl h) rfl hM rfl (by decide) (by decide +kernel)
      replace h := qa_iload (n := 1) (q := 62) (qa_e rfl h) rfl g1
      replace h := qa_iaload (jn := l1.toNatClampNeg) (q := 63) (qa_e rfl h) rfl hM es rfl
      obtain ⟨M, h, hM, es⟩ := qa_c1 (y := 70) (as := [.int (s.2.2), .int ((σ (17 + s.1.toNatClampNeg) l1.toNatClampNeg))]) (rest := []) (i := .invokestatic 70) (q := 66) (qa_e rfl h) (Or.inr rfl) rfl rfl (by decide) rfl (fun r hc => mb_70 hM es hc)
      obtain ⟨lv, h, g, T⟩ := qa_istore (n := 3) (q := 67) (qa_e rfl h) rfl
      replace g0 := T _ _ g0 (by decide) (Or.inr rfl)
      replace g1 := T _ _ g1 (by decide) (Or.inr rfl)
      replace g2 := T _ _ g2 (by decide) (Or.inr rfl)
      replace g4 := T _ _ g4 (by decide) (Or.inr rfl)
      have g3 := g
      clear g T
      obtain ⟨lv, h, g, T⟩ := qa_iinc (n := 4) (z := (1 : Int32)) (q := 70) (qa_e rfl h) rfl (by decide) g4
      replace g0 := T _ _ g0 (by decide) (Or.inr rfl)
      replace g1 := T _ _ g1 (by decide) (Or.inr rfl)
      replace g2 := T _ _ g2 (by decide) (Or.inr rfl)
      replace g3 := T _ _ g3 (by decide) (Or.inr rfl)
      replace g4 := g
      clear g T
      replace h := qa_goto (q := 21) (qa_e rfl h) rfl
      have e0 : mc_118_3_p21 N l1 σ s = .inl ((s.1 + (1 : Int32)), (ma_71 s.2.1 (σ (17 + s.1.toNatClampNeg) l1.toNatClampNeg)), (ma_70 s.2.2 (σ (17 + s.1.toNatClampNeg) l1.toNatClampNeg))) := by exact Eq.trans (if_pos c1) (rfl)
      rw [qa_whl e0]
      exact ih n hn (Nat.le_of_succ_le hF) ((s.1 + (1 : Int32)), (ma_71 s.2.1 (σ (17 + s.1.toNatClampNeg) l1.toNatClampNeg)), (ma_70 s.2.2 (σ (17 + s.1.toNatClampNeg) l1.toNatClampNeg))) _ _ hM es g0 g1 g2 g3 g4 h
    · replace h := qa_ift (q := 73) (qa_e rfl h) rfl (qa_T_ge c1)
      have e0 : mc_118_3_p21 N l1 σ s = .inr (s.1, s.2.1, s.2.2) := by exact Eq.trans (if_neg c1) (rfl)
      rw [qa_whr e0]
      exact ⟨_, _, q61_mono f F _ _ _ _ _ _ _ _ (Nat.le_of_succ_le hF) h, hM, es, g0, g2, g3⟩
/-- BuriedBySevens, range, (I)I -/
noncomputable def ma_118_3 (N : Nat) (a1 : Int32) (σ : qa_S) : Int32 × qa_S :=
  if (ma_26 a1) = (0 : Int32) then
    qa_in ((ma_9_3 (-1 : Int32) σ)) fun r2 =>
    (r2.1, r2.2)
  else
    qa_in ((qa_wh (fun s => s) (mc_118_3_p21 N a1 σ) N ((0 : Int32), (99 : Int32), (0 : Int32)))) fun r3 =>
    ((if (σ 4 0) = (0 : Int32) then (0 : Int32) else (r3.2.2 - r3.2.1)), σ)
theorem mb_118_3 {f N : Nat} (hN : f ≤ N) {M : q4_M} {r : Option Value × q4_M} {σ : qa_S} {a1 : Int32} (hM : qa_O M) (es : qa_s M = σ) (h : q4_run f 118 0 (lv_args 0 [.ref 3, .int (a1)]) [] M 0 0 = some r) : r.1 = some (.int ((ma_118_3 N a1 σ).1)) ∧ qa_O r.2 ∧ qa_s r.2 = (ma_118_3 N a1 σ).2 := by
  obtain ⟨lv, el⟩ : ∃ l, l = lv_args 0 [.ref 3, .int (a1)] := ⟨_, rfl⟩
  have g0 : q4_get lv 0 = some (.ref 3) := by rw [el]; rfl
  have g1 : q4_get lv 1 = some (.int (a1)) := by rw [el]; rfl
  rw [← el] at h
  clear el
  replace h := qa_iload (n := 1) (q := 1) (qa_e rfl h) rfl g1
  obtain ⟨M, h, hM, es⟩ := qa_c1 (y := 26) (as := [.int (a1)]) (rest := []) (i := .invokestatic 26) (q := 4) (qa_e rfl h) (Or.inr rfl) rfl rfl (by decide) rfl (fun r hc => mb_26 hM es hc)
  by_cases c1 : (ma_26 a1) = (0 : Int32)
  · replace h := qa_icf (q := 7) (qa_e rfl h) rfl (qa_F_ne c1)
    replace h := qa_aload (n := 0) (q := 8) (qa_e rfl h) rfl g0
    replace h := qa_push (z := (-1 : Int32)) (q := 9) (qa_e rfl h) rfl (by decide)
    obtain ⟨r2, er2⟩ : ∃ x, x = (ma_9_3 (-1 : Int32) σ) := ⟨_, rfl⟩
    obtain ⟨M, h, hM, es⟩ := qa_c1 (y := 9) (as := [.ref 3, .int ((-1 : Int32))]) (rest := []) (i := .invokevirtual 9) (q := 12) (qa_e rfl h) (Or.inl rfl) rfl rfl (by decide) rfl (fun r hc => mb_9_3 hM es hc)
    rw [← er2] at h es
    have er := qa_ri (qa_e rfl h)
    subst er
    have e0 : ma_118_3 N a1 σ = (r2.1, r2.2) := by exact Eq.trans (if_pos c1) (Eq.trans (qa_ie er2) (rfl))
    rw [e0]
    exact ⟨rfl, hM, es⟩
  · replace h := qa_ict (q := 13) (qa_e rfl h) rfl (qa_T_ne c1)
    replace h := qa_push (z := (99 : Int32)) (q := 15) (qa_e rfl h) rfl (by decide)
    obtain ⟨lv, h, g, T⟩ := qa_istore (n := 2) (q := 16) (qa_e rfl h) rfl
    replace g0 := T _ _ g0 (by decide) (Or.inr rfl)
    replace g1 := T _ _ g1 (by decide) (Or.inr rfl)
    have g2 := g
    clear g T
    replace h := qa_push (z := (0 : Int32)) (q := 17) (qa_e rfl h) rfl (by decide)
    obtain ⟨lv, h, g, T⟩ := qa_istore (n := 3) (q := 18) (qa_e rfl h) rfl
    replace g0 := T _ _ g0 (by decide) (Or.inr rfl)
    replace g1 := T _ _ g1 (by decide) (Or.inr rfl)
    replace g2 := T _ _ g2 (by decide) (Or.inr rfl)
    have g3 := g
    clear g T
    replace h := qa_push (z := (0 : Int32)) (q := 19) (qa_e rfl h) rfl (by decide)
    obtain ⟨lv, h, g, T⟩ := qa_istore (n := 4) (q := 21) (qa_e rfl h) rfl
    replace g0 := T _ _ g0 (by decide) (Or.inr rfl)
    replace g1 := T _ _ g1 (by decide) (Or.inr rfl)
    replace g2 := T _ _ g2 (by decide) (Or.inr rfl)
    replace g3 := T _ _ g3 (by decide) (Or.inr rfl)
    have g4 := g
    clear g T
    obtain ⟨r3, er3⟩ : ∃ x, x = (qa_wh (fun s => s) (mc_118_3_p21 N a1 σ) N ((0 : Int32), (99 : Int32), (0 : Int32))) := ⟨_, rfl⟩
    have L := md_118_3_p21 (l1 := a1) (σ := σ) (F := f) (N := N) (r := r) hN f N hN (Nat.le_refl f) ((0 : Int32), (99 : Int32), (0 : Int32)) _ _ hM es g0 g1 g2 g3 g4 h
    rw [← er3] at L
    obtain ⟨lv, M, h, hM, es, g0, g2, g3⟩ := L
    replace h := qa_aload (n := 0) (q := 74) (qa_e rfl h) rfl g0
    replace h := qa_gr (b := 4) (j := 0) (q := 77) (qa_e rfl h) rfl hM rfl (by decide)
    replace h := qa_gi (j := 0) (q := 80) (qa_e rfl h) rfl hM es rfl (by decide)
    obtain ⟨lv, M, h, hM, es⟩ : ∃ lv M, q4_run f 118 90 lv [.int ((if (σ 4 0) = (0 : Int32) then (0 : Int32) else (r3.2.2 - r3.2.1)))] M 0 0 = some r ∧ qa_O M ∧ qa_s M = σ := by
      by_cases c4 : (σ 4 0) = (0 : Int32)
      · replace h := qa_icf (q := 83) (qa_e rfl h) rfl (qa_F_ne c4)
        replace h := qa_push (z := (0 : Int32)) (q := 84) (qa_e rfl h) rfl (by decide)
        replace h := qa_goto (q := 90) (qa_e rfl h) rfl
        exact ⟨lv, M, (qa_hi1 c4 h), hM, es⟩
      · replace h := qa_ict (q := 87) (qa_e rfl h) rfl (qa_T_ne c4)
        replace h := qa_iload (n := 3) (q := 88) (qa_e rfl h) rfl g3
        replace h := qa_iload (n := 2) (q := 89) (qa_e rfl h) rfl g2
        replace h := qa_isub (q := 90) (qa_e rfl h) rfl
        exact ⟨lv, M, (qa_hi0 c4 h), hM, es⟩
    have er := qa_ri (qa_e rfl h)
    subst er
    have e0 : ma_118_3 N a1 σ = ((if (σ 4 0) = (0 : Int32) then (0 : Int32) else (r3.2.2 - r3.2.1)), σ) := by exact Eq.trans (if_neg c1) (Eq.trans (qa_ie er3) (rfl))
    rw [e0]
    exact ⟨rfl, hM, es⟩
noncomputable def mc_120_73_80_p5 (N : Nat) (σ : qa_S) (s : Int32 × Int32) : (Int32 × Int32) ⊕ (Int32 × Int32) :=
  if s.1 < (σ 73 1) then
    qa_in ((ma_76_73_80 N s.1 σ)) fun r2 =>
    .inl ((s.1 + (1 : Int32)), (if r2 = (0 : Int32) then s.2 else (if s.2 = (-9 : Int32) then (σ 79 s.1.toNatClampNeg) else (if (σ 79 s.1.toNatClampNeg) < s.2 then (σ 79 s.1.toNatClampNeg) else s.2))))
  else
    .inr (s.1, s.2)
theorem md_120_73_80_p5 {N F : Nat} {r : Option Value × q4_M} {σ : qa_S} (hN : F ≤ N) : ∀ f n, f ≤ n → f ≤ F → ∀ (s : Int32 × Int32) (lv : List (Nat × Value)) (M : q4_M), qa_O M → qa_s M = σ → q4_get lv 0 = some (.ref 73) → q4_get lv 1 = some (.ref 80) → q4_get lv 2 = some (.int (s.2)) → q4_get lv 3 = some (.int (s.1)) → q4_run f 120 5 lv [] M 0 0 = some r → ∃ lv M, q4_run F 120 51 lv [] M 0 0 = some r ∧ qa_O M ∧ qa_s M = σ ∧ q4_get lv 2 = some (.int ((qa_wh (fun s => s) (mc_120_73_80_p5 N σ) n s).2)) := by
  intro f
  induction f with
  | zero => intro n _ _ s lv M hM es _ _ _ _ h; cases h
  | succ f ih =>
    intro n hn hF s lv M hM es g0 g1 g2 g3 h
    obtain ⟨n, rfl⟩ : ∃ n1, n = n1 + 1 := ⟨n - 1, by omega⟩
    replace hn : f ≤ n := Nat.le_of_succ_le_succ hn
    have hN := Nat.le_trans (Nat.le_of_succ_le hF) hN
    replace h := qa_iload (n := 3) (q := 6) (qa_d rfl h) rfl g3
    replace h := qa_aload (n := 0) (q := 7) (qa_e rfl h) rfl g0
    replace h := qa_gi (j := 1) (q := 10) (qa_e rfl h) rfl hM es rfl (by decide)
    by_cases c1 : s.1 < (σ 73 1)
    · replace h := qa_iff (q := 13) (qa_e rfl h) rfl (qa_F_ge c1)
      replace h := qa_aload (n := 0) (q := 14) (qa_e rfl h) rfl g0
      replace h := qa_aload (n := 1) (q := 15) (qa_e rfl h) rfl g1
      replace h := qa_iload (n := 3) (q := 16) (qa_e rfl h) rfl g3
      obtain ⟨r2, er2⟩ : ∃ x, x = (ma_76_73_80 N s.1 σ) := ⟨_, rfl⟩
      obtain ⟨M, h, hM, es⟩ := qa_c1 (y := 76) (as := [.ref 73, .ref 80, .int (s.1)]) (rest := []) (i := .invokevirtual 76) (q := 19) (qa_e rfl h) (Or.inl rfl) rfl rfl (by decide) rfl (fun r hc => mb_76_73_80 hN hM es hc)
      rw [← er2] at h
      obtain ⟨lv, M, h, hM, es, g0, g1, g2, g3⟩ : ∃ lv M, q4_run f 120 45 lv [] M 0 0 = some r ∧ qa_O M ∧ qa_s M = σ ∧ q4_get lv 0 = some (.ref 73) ∧ q4_get lv 1 = some (.ref 80) ∧ q4_get lv 2 = some (.int ((if r2 = (0 : Int32) then s.2 else (if s.2 = (-9 : Int32) then (σ 79 s.1.toNatClampNeg) else (if (σ 79 s.1.toNatClampNeg) < s.2 then (σ 79 s.1.toNatClampNeg) else s.2))))) ∧ q4_get lv 3 = some (.int (s.1)) := by
        by_cases c3 : r2 = (0 : Int32)
        · replace h := qa_ict (q := 45) (qa_e rfl h) rfl (qa_T_eq c3)
          exact ⟨lv, M, h, hM, es, g0, g1, (qa_gi1 c3 g2), g3⟩
        · replace h := qa_icf (q := 22) (qa_e rfl h) rfl (qa_F_eq c3)
          replace h := qa_iload (n := 2) (q := 23) (qa_e rfl h) rfl g2
          replace h := qa_push (z := (-9 : Int32)) (q := 25) (qa_e rfl h) rfl (by decide)
          obtain ⟨lv, M, h, hM, es, g0, g1, g2, g3⟩ : ∃ lv M, q4_run f 120 45 lv [] M 0 0 = some r ∧ qa_O M ∧ qa_s M = σ ∧ q4_get lv 0 = some (.ref 73) ∧ q4_get lv 1 = some (.ref 80) ∧ q4_get lv 2 = some (.int ((if s.2 = (-9 : Int32) then (σ 79 s.1.toNatClampNeg) else (if (σ 79 s.1.toNatClampNeg) < s.2 then (σ 79 s.1.toNatClampNeg) else s.2)))) ∧ q4_get lv 3 = some (.int (s.1)) := by
            by_cases c4 : s.2 = (-9 : Int32)
            · replace h := qa_ift (q := 38) (qa_e rfl h) rfl (qa_T_eq c4)
              replace h := qa_aload (n := 0) (q := 39) (qa_e rfl h) rfl g0
              replace h := qa_gr (b := 79) (j := 3) (q := 42) (qa_e rfl h) rfl hM rfl (by decide)
              replace h := qa_iload (n := 3) (q := 43) (qa_e rfl h) rfl g3
              replace h := qa_iaload (jn := s.1.toNatClampNeg) (q := 44) (qa_e rfl h) rfl hM es rfl
              obtain ⟨lv, h, g, T⟩ := qa_istore (n := 2) (q := 45) (qa_e rfl h) rfl
              replace g0 := T _ _ g0 (by decide) (Or.inr rfl)
              replace g1 := T _ _ g1 (by decide) (Or.inr rfl)
              replace g3 := T _ _ g3 (by decide) (Or.inr rfl)
              have g2 := g
              clear g T
              exact ⟨lv, M, h, hM, es, g0, g1, (qa_gi1 c4 g2), g3⟩
            · replace h := qa_iff (q := 28) (qa_e rfl h) rfl (qa_F_eq c4)
              replace h := qa_aload (n := 0) (q := 29) (qa_e rfl h) rfl g0
              replace h := qa_gr (b := 79) (j := 3) (q := 32) (qa_e rfl h) rfl hM rfl (by decide)
              replace h := qa_iload (n := 3) (q := 33) (qa_e rfl h) rfl g3
              replace h := qa_iaload (jn := s.1.toNatClampNeg) (q := 34) (qa_e rfl h) rfl hM es rfl
              replace h := qa_iload (n := 2) (q := 35) (qa_e rfl h) rfl g2
              obtain ⟨lv, M, h, hM, es, g0, g1, g2, g3⟩ : ∃ lv M, q4_run f 120 45 lv [] M 0 0 = some r ∧ qa_O M ∧ qa_s M = σ ∧ q4_get lv 0 = some (.ref 73) ∧ q4_get lv 1 = some (.ref 80) ∧ q4_get lv 2 = some (.int ((if (σ 79 s.1.toNatClampNeg) < s.2 then (σ 79 s.1.toNatClampNeg) else s.2))) ∧ q4_get lv 3 = some (.int (s.1)) := by
                by_cases c5 : (σ 79 s.1.toNatClampNeg) < s.2
                · replace h := qa_iff (q := 38) (qa_e rfl h) rfl (qa_F_ge c5)
                  replace h := qa_aload (n := 0) (q := 39) (qa_e rfl h) rfl g0
                  replace h := qa_gr (b := 79) (j := 3) (q := 42) (qa_e rfl h) rfl hM rfl (by decide)
                  replace h := qa_iload (n := 3) (q := 43) (qa_e rfl h) rfl g3
                  replace h := qa_iaload (jn := s.1.toNatClampNeg) (q := 44) (qa_e rfl h) rfl hM es rfl
                  obtain ⟨lv, h, g, T⟩ := qa_istore (n := 2) (q := 45) (qa_e rfl h) rfl
                  replace g0 := T _ _ g0 (by decide) (Or.inr rfl)
                  replace g1 := T _ _ g1 (by decide) (Or.inr rfl)
                  replace g3 := T _ _ g3 (by decide) (Or.inr rfl)
                  have g2 := g
                  clear g T
                  exact ⟨lv, M, h, hM, es, g0, g1, (qa_gi1 c5 g2), g3⟩
                · replace h := qa_ift (q := 45) (qa_e rfl h) rfl (qa_T_ge c5)
                  exact ⟨lv, M, h, hM, es, g0, g1, (qa_gi0 c5 g2), g3⟩
              exact ⟨lv, M, h, hM, es, g0, g1, (qa_gi0 c4 g2), g3⟩
          exact ⟨lv, M, h, hM, es, g0, g1, (qa_gi0 c3 g2), g3⟩
      obtain ⟨lv, h, g, T⟩ := qa_iinc (n := 3) (z := (1 : Int32)) (q := 48) (qa_e rfl h) rfl (by decide) g3
      replace g0 := T _ _ g0 (by decide) (Or.inr rfl)
      replace g1 := T _ _ g1 (by decide) (Or.inr rfl)
      replace g2 := T _ _ g2 (by decide) (Or.inr rfl)
      replace g3 := g
      clear g T
      replace h := qa_goto (q := 5) (qa_e rfl h) rfl
      have e0 : mc_120_73_80_p5 N σ s = .inl ((s.1 + (1 : Int32)), (if r2 = (0 : Int32) then s.2 else (if s.2 = (-9 : Int32) then (σ 79 s.1.toNatClampNeg) else (if (σ 79 s.1.toNatClampNeg) < s.2 then (σ 79 s.1.toNatClampNeg) else s.2)))) := by exact Eq.trans (if_pos c1) (Eq.trans (qa_ie er2) (rfl))
      rw [qa_whl e0]
      exact ih n hn (Nat.le_of_succ_le hF) ((s.1 + (1 : Int32)), (if r2 = (0 : Int32) then s.2 else (if s.2 = (-9 : Int32) then (σ 79 s.1.toNatClampNeg) else (if (σ 79 s.1.toNatClampNeg) < s.2 then (σ 79 s.1.toNatClampNeg) else s.2)))) _ _ hM es g0 g1 g2 g3 h
    · replace h := qa_ift (q := 51) (qa_e rfl h) rfl (qa_T_ge c1)
      have e0 : mc_120_73_80_p5 N σ s = .inr (s.1, s.2) := by exact Eq.trans (if_neg c1) (rfl)
      rw [qa_whr e0]
      exact ⟨_, _, q61_mono f F _ _ _ _ _ _ _ _ (Nat.le_of_succ_le hF) h, hM, es, g2⟩
/-- BuriedBySevens$Glasses, fewestParts, (LBuriedBySevens$Window;)I -/
noncomputable def ma_120_73_80 (N : Nat) (σ : qa_S) : Int32 :=
  qa_in ((qa_wh (fun s => s) (mc_120_73_80_p5 N σ) N ((1 : Int32), (-9 : Int32)))) fun r1 =>
  r1.2
theorem mb_120_73_80 {f N : Nat} (hN : f ≤ N) {M : q4_M} {r : Option Value × q4_M} {σ : qa_S} (hM : qa_O M) (es : qa_s M = σ) (h : q4_run f 120 0 (lv_args 0 [.ref 73, .ref 80]) [] M 0 0 = some r) : r.1 = some (.int ((ma_120_73_80 N σ))) ∧ qa_O r.2 ∧ qa_s r.2 = σ := by
  obtain ⟨lv, el⟩ : ∃ l, l = lv_args 0 [.ref 73, .ref 80] := ⟨_, rfl⟩
  have g0 : q4_get lv 0 = some (.ref 73) := by rw [el]; rfl
  have g1 : q4_get lv 1 = some (.ref 80) := by rw [el]; rfl
  rw [← el] at h
  clear el
  replace h := qa_push (z := (-9 : Int32)) (q := 2) (qa_e rfl h) rfl (by decide)
  obtain ⟨lv, h, g, T⟩ := qa_istore (n := 2) (q := 3) (qa_e rfl h) rfl
  replace g0 := T _ _ g0 (by decide) (Or.inr rfl)
  replace g1 := T _ _ g1 (by decide) (Or.inr rfl)
  have g2 := g
  clear g T
  replace h := qa_push (z := (1 : Int32)) (q := 4) (qa_e rfl h) rfl (by decide)
  obtain ⟨lv, h, g, T⟩ := qa_istore (n := 3) (q := 5) (qa_e rfl h) rfl
  replace g0 := T _ _ g0 (by decide) (Or.inr rfl)
  replace g1 := T _ _ g1 (by decide) (Or.inr rfl)
  replace g2 := T _ _ g2 (by decide) (Or.inr rfl)
  have g3 := g
  clear g T
  obtain ⟨r1, er1⟩ : ∃ x, x = (qa_wh (fun s => s) (mc_120_73_80_p5 N σ) N ((1 : Int32), (-9 : Int32))) := ⟨_, rfl⟩
  have L := md_120_73_80_p5 (σ := σ) (F := f) (N := N) (r := r) hN f N hN (Nat.le_refl f) ((1 : Int32), (-9 : Int32)) _ _ hM es g0 g1 g2 g3 h
  rw [← er1] at L
  obtain ⟨lv, M, h, hM, es, g2⟩ := L
  replace h := qa_iload (n := 2) (q := 52) (qa_e rfl h) rfl g2
  have er := qa_ri (qa_e rfl h)
  subst er
  have e0 : ma_120_73_80 N σ = r1.2 := by exact Eq.trans (qa_ie er1) (rfl)
  rw [e0]
  exact ⟨rfl, hM, es⟩
/-- BuriedBySevens, pour, (II)I -/
noncomputable def ma_119_3 (N : Nat) (a1 : Int32) (a2 : Int32) (σ : qa_S) : Int32 × qa_S :=
  if (ma_26 a1) = (0 : Int32) then
    qa_in ((ma_9_3 (-1 : Int32) σ)) fun r2 =>
    (r2.1, r2.2)
  else
    if a2 < (0 : Int32) then
      qa_in ((ma_9_3 (-4 : Int32) σ)) fun r4 =>
      (r4.1, r4.2)
    else
      if (99 : Int32) < a2 then
        qa_in ((ma_9_3 (-6 : Int32) σ)) fun r6 =>
        (r6.1, r6.2)
      else
        qa_in ((ma_67_80 N σ)) fun m7 =>
        qa_in ((ma_69_80 a1 a2 (0 : Int32) m7)) fun m8 =>
        qa_in ((ma_72_3 N m8)) fun m9 =>
        qa_in ((ma_120_73_80 N m9)) fun r10 =>
        (r10, m9)
theorem mb_119_3 {f N : Nat} (hN : f ≤ N) {M : q4_M} {r : Option Value × q4_M} {σ : qa_S} {a1 : Int32} {a2 : Int32} (hM : qa_O M) (es : qa_s M = σ) (h : q4_run f 119 0 (lv_args 0 [.ref 3, .int (a1), .int (a2)]) [] M 0 0 = some r) : r.1 = some (.int ((ma_119_3 N a1 a2 σ).1)) ∧ qa_O r.2 ∧ qa_s r.2 = (ma_119_3 N a1 a2 σ).2 := by
  obtain ⟨lv, el⟩ : ∃ l, l = lv_args 0 [.ref 3, .int (a1), .int (a2)] := ⟨_, rfl⟩
  have g0 : q4_get lv 0 = some (.ref 3) := by rw [el]; rfl
  have g1 : q4_get lv 1 = some (.int (a1)) := by rw [el]; rfl
  have g2 : q4_get lv 2 = some (.int (a2)) := by rw [el]; rfl
  rw [← el] at h
  clear el
  replace h := qa_iload (n := 1) (q := 1) (qa_e rfl h) rfl g1
  obtain ⟨M, h, hM, es⟩ := qa_c1 (y := 26) (as := [.int (a1)]) (rest := []) (i := .invokestatic 26) (q := 4) (qa_e rfl h) (Or.inr rfl) rfl rfl (by decide) rfl (fun r hc => mb_26 hM es hc)
  by_cases c1 : (ma_26 a1) = (0 : Int32)
  · replace h := qa_icf (q := 7) (qa_e rfl h) rfl (qa_F_ne c1)
    replace h := qa_aload (n := 0) (q := 8) (qa_e rfl h) rfl g0
    replace h := qa_push (z := (-1 : Int32)) (q := 9) (qa_e rfl h) rfl (by decide)
    obtain ⟨r2, er2⟩ : ∃ x, x = (ma_9_3 (-1 : Int32) σ) := ⟨_, rfl⟩
    obtain ⟨M, h, hM, es⟩ := qa_c1 (y := 9) (as := [.ref 3, .int ((-1 : Int32))]) (rest := []) (i := .invokevirtual 9) (q := 12) (qa_e rfl h) (Or.inl rfl) rfl rfl (by decide) rfl (fun r hc => mb_9_3 hM es hc)
    rw [← er2] at h es
    have er := qa_ri (qa_e rfl h)
    subst er
    have e0 : ma_119_3 N a1 a2 σ = (r2.1, r2.2) := by exact Eq.trans (if_pos c1) (Eq.trans (qa_ie er2) (rfl))
    rw [e0]
    exact ⟨rfl, hM, es⟩
  · replace h := qa_ict (q := 13) (qa_e rfl h) rfl (qa_T_ne c1)
    replace h := qa_iload (n := 2) (q := 14) (qa_e rfl h) rfl g2
    by_cases c3 : a2 < (0 : Int32)
    · replace h := qa_icf (q := 17) (qa_e rfl h) rfl (qa_F_ge c3)
      replace h := qa_aload (n := 0) (q := 18) (qa_e rfl h) rfl g0
      replace h := qa_push (z := (-4 : Int32)) (q := 20) (qa_e rfl h) rfl (by decide)
      obtain ⟨r4, er4⟩ : ∃ x, x = (ma_9_3 (-4 : Int32) σ) := ⟨_, rfl⟩
      obtain ⟨M, h, hM, es⟩ := qa_c1 (y := 9) (as := [.ref 3, .int ((-4 : Int32))]) (rest := []) (i := .invokevirtual 9) (q := 23) (qa_e rfl h) (Or.inl rfl) rfl rfl (by decide) rfl (fun r hc => mb_9_3 hM es hc)
      rw [← er4] at h es
      have er := qa_ri (qa_e rfl h)
      subst er
      have e0 : ma_119_3 N a1 a2 σ = (r4.1, r4.2) := by exact Eq.trans (if_neg c1) (Eq.trans (if_pos c3) (Eq.trans (qa_ie er4) (rfl)))
      rw [e0]
      exact ⟨rfl, hM, es⟩
    · replace h := qa_ict (q := 24) (qa_e rfl h) rfl (qa_T_ge c3)
      replace h := qa_iload (n := 2) (q := 25) (qa_e rfl h) rfl g2
      replace h := qa_push (z := (99 : Int32)) (q := 27) (qa_e rfl h) rfl (by decide)
      by_cases c5 : (99 : Int32) < a2
      · replace h := qa_iff (q := 30) (qa_e rfl h) rfl (qa_F_le c5)
        replace h := qa_aload (n := 0) (q := 31) (qa_e rfl h) rfl g0
        replace h := qa_push (z := (-6 : Int32)) (q := 33) (qa_e rfl h) rfl (by decide)
        obtain ⟨r6, er6⟩ : ∃ x, x = (ma_9_3 (-6 : Int32) σ) := ⟨_, rfl⟩
        obtain ⟨M, h, hM, es⟩ := qa_c1 (y := 9) (as := [.ref 3, .int ((-6 : Int32))]) (rest := []) (i := .invokevirtual 9) (q := 36) (qa_e rfl h) (Or.inl rfl) rfl rfl (by decide) rfl (fun r hc => mb_9_3 hM es hc)
        rw [← er6] at h es
        have er := qa_ri (qa_e rfl h)
        subst er
        have e0 : ma_119_3 N a1 a2 σ = (r6.1, r6.2) := by exact Eq.trans (if_neg c1) (Eq.trans (if_neg c3) (Eq.trans (if_pos c5) (Eq.trans (qa_ie er6) (rfl))))
        rw [e0]
        exact ⟨rfl, hM, es⟩
      · replace h := qa_ift (q := 37) (qa_e rfl h) rfl (qa_T_le c5)
        replace h := qa_aload (n := 0) (q := 38) (qa_e rfl h) rfl g0
        replace h := qa_gr (b := 80) (j := 4) (q := 41) (qa_e rfl h) rfl hM rfl (by decide)
        obtain ⟨m7, em7⟩ : ∃ x, x = (ma_67_80 N σ) := ⟨_, rfl⟩
        obtain ⟨M, h, hM, es⟩ := qa_c0 (y := 67) (as := [.ref 80]) (rest := []) (i := .invokevirtual 67) (q := 44) (qa_e rfl h) (Or.inl rfl) rfl rfl (by decide) rfl (fun r hc => mb_67_80 hN hM es hc)
        rw [← em7] at es
        replace h := qa_aload (n := 0) (q := 45) (qa_e rfl h) rfl g0
        replace h := qa_gr (b := 80) (j := 4) (q := 48) (qa_e rfl h) rfl hM rfl (by decide)
        replace h := qa_iload (n := 1) (q := 49) (qa_e rfl h) rfl g1
        replace h := qa_iload (n := 2) (q := 50) (qa_e rfl h) rfl g2
        replace h := qa_push (z := (0 : Int32)) (q := 51) (qa_e rfl h) rfl (by decide)
        obtain ⟨m8, em8⟩ : ∃ x, x = (ma_69_80 a1 a2 (0 : Int32) m7) := ⟨_, rfl⟩
        obtain ⟨M, h, hM, es⟩ := qa_c0 (y := 69) (as := [.ref 80, .int (a1), .int (a2), .int ((0 : Int32))]) (rest := []) (i := .invokevirtual 69) (q := 54) (qa_e rfl h) (Or.inl rfl) rfl rfl (by decide) rfl (fun r hc => mb_69_80 hM es hc)
        rw [← em8] at es
        replace h := qa_aload (n := 0) (q := 55) (qa_e rfl h) rfl g0
        obtain ⟨m9, em9⟩ : ∃ x, x = (ma_72_3 N m8) := ⟨_, rfl⟩
        obtain ⟨M, h, hM, es⟩ := qa_c1 (y := 72) (as := [.ref 3]) (rest := []) (i := .invokevirtual 72) (q := 58) (qa_e rfl h) (Or.inl rfl) rfl rfl (by decide) rfl (fun r hc => mb_72_3 hN hM es hc)
        rw [← em9] at es
        replace h := qa_aload (n := 0) (q := 59) (qa_e rfl h) rfl g0
        replace h := qa_gr (b := 80) (j := 4) (q := 62) (qa_e rfl h) rfl hM rfl (by decide)
        obtain ⟨r10, er10⟩ : ∃ x, x = (ma_120_73_80 N m9) := ⟨_, rfl⟩
        obtain ⟨M, h, hM, es⟩ := qa_c1 (y := 120) (as := [.ref 73, .ref 80]) (rest := []) (i := .invokevirtual 120) (q := 65) (qa_e rfl h) (Or.inl rfl) rfl rfl (by decide) rfl (fun r hc => mb_120_73_80 hN hM es hc)
        rw [← er10] at h
        have er := qa_ri (qa_e rfl h)
        subst er
        have e0 : ma_119_3 N a1 a2 σ = (r10, m9) := by exact Eq.trans (if_neg c1) (Eq.trans (if_neg c3) (Eq.trans (if_neg c5) (Eq.trans (qa_ie em7) (Eq.trans (qa_ie em8) (Eq.trans (qa_ie em9) (Eq.trans (qa_ie er10) (rfl)))))))
        rw [e0]
        exact ⟨rfl, hM, es⟩
noncomputable def mc_121_3_p8 (N : Nat) (σ : qa_S) (s : Int32 × Int32) : (Int32 × Int32) ⊕ (Int32 × Int32) :=
  if s.1 < (σ 4 0) then
    qa_in ((ma_99_3 N 94 (17 + s.1.toNatClampNeg) σ)) fun r2 =>
    .inl ((s.1 + (1 : Int32)), (if r2 = (0 : Int32) then (s.2 ||| ((1 : Int32) <<< (s.1 &&& 31))) else s.2))
  else
    .inr (s.1, s.2)
theorem md_121_3_p8 {N F : Nat} {r : Option Value × q4_M} {σ : qa_S} (hN : F ≤ N) : ∀ f n, f ≤ n → f ≤ F → ∀ (s : Int32 × Int32) (lv : List (Nat × Value)) (M : q4_M), qa_O M → qa_s M = σ → q4_get lv 0 = some (.ref 3) → q4_get lv 1 = some (.int (s.2)) → q4_get lv 2 = some (.int (s.1)) → q4_run f 121 8 lv [] M 0 0 = some r → ∃ lv M, q4_run F 121 51 lv [] M 0 0 = some r ∧ qa_O M ∧ qa_s M = σ ∧ q4_get lv 1 = some (.int ((qa_wh (fun s => s) (mc_121_3_p8 N σ) n s).2)) := by
  intro f
  induction f with
  | zero => intro n _ _ s lv M hM es _ _ _ h; cases h
  | succ f ih =>
    intro n hn hF s lv M hM es g0 g1 g2 h
    obtain ⟨n, rfl⟩ : ∃ n1, n = n1 + 1 := ⟨n - 1, by omega⟩
    replace hn : f ≤ n := Nat.le_of_succ_le_succ hn
    have hN := Nat.le_trans (Nat.le_of_succ_le hF) hN
    replace h := qa_iload (n := 2) (q := 9) (qa_d rfl h) rfl g2
    replace h := qa_aload (n := 0) (q := 10) (qa_e rfl h) rfl g0
    replace h := qa_gr (b := 4) (j := 0) (q := 13) (qa_e rfl h) rfl hM rfl (by decide)
    replace h := qa_gi (j := 0) (q := 16) (qa_e rfl h) rfl hM es rfl (by decide)
    by_cases c1 : s.1 < (σ 4 0)
    · replace h := qa_iff (q := 19) (qa_e rfl h) rfl (qa_F_ge c1)
      replace h := qa_aload (n := 0) (q := 20) (qa_e rfl h) rfl g0
      replace h := qa_aload (n := 0) (q := 21) (qa_e rfl h) rfl g0
      replace h := qa_gr (b := 94) (j := 11) (q := 24) (qa_e rfl h) rfl hM rfl (by decide)
      replace h := qa_aload (n := 0) (q := 25) (qa_e rfl h) rfl g0
      replace h := qa_gr (b := 4) (j := 0) (q := 28) (qa_e rfl h) rfl hM rfl (by decide)
      replace h := qa_gr (b := 16) (j := 6) (q := 31) (qa_e rfl h) rfl hM rfl (by decide)
      replace h := qa_iload (n := 2) (q := 32) (qa_e rfl h) rfl g2
      replace h := qa_aaload (b := 17) (jn := s.1.toNatClampNeg) (q := 33) (qa_e rfl h) rfl hM rfl (by decide) (by decide +kernel)
      obtain ⟨r2, er2⟩ : ∃ x, x = (ma_99_3 N 94 (17 + s.1.toNatClampNeg) σ) := ⟨_, rfl⟩
      obtain ⟨M, h, hM, es⟩ := qa_c1 (y := 99) (as := [.ref 3, .ref 94, .ref ((17 + s.1.toNatClampNeg))]) (rest := []) (i := .invokevirtual 99) (q := 36) (qa_e rfl h) (Or.inl rfl) rfl rfl (by decide) rfl (fun r hc => mb_99_3 hN hM es hc)
      rw [← er2] at h
      obtain ⟨lv, M, h, hM, es, g0, g1, g2⟩ : ∃ lv M, q4_run f 121 45 lv [] M 0 0 = some r ∧ qa_O M ∧ qa_s M = σ ∧ q4_get lv 0 = some (.ref 3) ∧ q4_get lv 1 = some (.int ((if r2 = (0 : Int32) then (s.2 ||| ((1 : Int32) <<< (s.1 &&& 31))) else s.2))) ∧ q4_get lv 2 = some (.int (s.1)) := by
        by_cases c3 : r2 = (0 : Int32)
        · replace h := qa_icf (q := 39) (qa_e rfl h) rfl (qa_F_ne c3)
          replace h := qa_iload (n := 1) (q := 40) (qa_e rfl h) rfl g1
          replace h := qa_push (z := (1 : Int32)) (q := 41) (qa_e rfl h) rfl (by decide)
          replace h := qa_iload (n := 2) (q := 42) (qa_e rfl h) rfl g2
          replace h := qa_ishl (q := 43) (qa_e rfl h) rfl
          replace h := qa_ior (q := 44) (qa_e rfl h) rfl
          obtain ⟨lv, h, g, T⟩ := qa_istore (n := 1) (q := 45) (qa_e rfl h) rfl
          replace g0 := T _ _ g0 (by decide) (Or.inr rfl)
          replace g2 := T _ _ g2 (by decide) (Or.inr rfl)
          have g1 := g
          clear g T
          exact ⟨lv, M, h, hM, es, g0, (qa_gi1 c3 g1), g2⟩
        · replace h := qa_ict (q := 45) (qa_e rfl h) rfl (qa_T_ne c3)
          exact ⟨lv, M, h, hM, es, g0, (qa_gi0 c3 g1), g2⟩
      obtain ⟨lv, h, g, T⟩ := qa_iinc (n := 2) (z := (1 : Int32)) (q := 48) (qa_e rfl h) rfl (by decide) g2
      replace g0 := T _ _ g0 (by decide) (Or.inr rfl)
      replace g1 := T _ _ g1 (by decide) (Or.inr rfl)
      replace g2 := g
      clear g T
      replace h := qa_goto (q := 8) (qa_e rfl h) rfl
      have e0 : mc_121_3_p8 N σ s = .inl ((s.1 + (1 : Int32)), (if r2 = (0 : Int32) then (s.2 ||| ((1 : Int32) <<< (s.1 &&& 31))) else s.2)) := by exact Eq.trans (if_pos c1) (Eq.trans (qa_ie er2) (rfl))
      rw [qa_whl e0]
      exact ih n hn (Nat.le_of_succ_le hF) ((s.1 + (1 : Int32)), (if r2 = (0 : Int32) then (s.2 ||| ((1 : Int32) <<< (s.1 &&& 31))) else s.2)) _ _ hM es g0 g1 g2 h
    · replace h := qa_ift (q := 51) (qa_e rfl h) rfl (qa_T_ge c1)
      have e0 : mc_121_3_p8 N σ s = .inr (s.1, s.2) := by exact Eq.trans (if_neg c1) (rfl)
      rw [qa_whr e0]
      exact ⟨_, _, q61_mono f F _ _ _ _ _ _ _ _ (Nat.le_of_succ_le hF) h, hM, es, g1⟩
/-- BuriedBySevens, like, ()I -/
noncomputable def ma_121_3 (N : Nat) (σ : qa_S) : Int32 × qa_S :=
  qa_in ((ma_46_3 N σ)) fun m1 =>
  qa_in ((qa_wh (fun s => s) (mc_121_3_p8 N m1) N ((0 : Int32), (0 : Int32)))) fun r2 =>
  (r2.2, m1)
theorem mb_121_3 {f N : Nat} (hN : f ≤ N) {M : q4_M} {r : Option Value × q4_M} {σ : qa_S} (hM : qa_O M) (es : qa_s M = σ) (h : q4_run f 121 0 (lv_args 0 [.ref 3]) [] M 0 0 = some r) : r.1 = some (.int ((ma_121_3 N σ).1)) ∧ qa_O r.2 ∧ qa_s r.2 = (ma_121_3 N σ).2 := by
  obtain ⟨lv, el⟩ : ∃ l, l = lv_args 0 [.ref 3] := ⟨_, rfl⟩
  have g0 : q4_get lv 0 = some (.ref 3) := by rw [el]; rfl
  rw [← el] at h
  clear el
  replace h := qa_aload (n := 0) (q := 1) (qa_e rfl h) rfl g0
  obtain ⟨m1, em1⟩ : ∃ x, x = (ma_46_3 N σ) := ⟨_, rfl⟩
  obtain ⟨M, h, hM, es⟩ := qa_c0 (y := 46) (as := [.ref 3]) (rest := []) (i := .invokevirtual 46) (q := 4) (qa_e rfl h) (Or.inl rfl) rfl rfl (by decide) rfl (fun r hc => mb_46_3 hN hM es hc)
  rw [← em1] at es
  replace h := qa_push (z := (0 : Int32)) (q := 5) (qa_e rfl h) rfl (by decide)
  obtain ⟨lv, h, g, T⟩ := qa_istore (n := 1) (q := 6) (qa_e rfl h) rfl
  replace g0 := T _ _ g0 (by decide) (Or.inr rfl)
  have g1 := g
  clear g T
  replace h := qa_push (z := (0 : Int32)) (q := 7) (qa_e rfl h) rfl (by decide)
  obtain ⟨lv, h, g, T⟩ := qa_istore (n := 2) (q := 8) (qa_e rfl h) rfl
  replace g0 := T _ _ g0 (by decide) (Or.inr rfl)
  replace g1 := T _ _ g1 (by decide) (Or.inr rfl)
  have g2 := g
  clear g T
  obtain ⟨r2, er2⟩ : ∃ x, x = (qa_wh (fun s => s) (mc_121_3_p8 N m1) N ((0 : Int32), (0 : Int32))) := ⟨_, rfl⟩
  have L := md_121_3_p8 (σ := m1) (F := f) (N := N) (r := r) hN f N hN (Nat.le_refl f) ((0 : Int32), (0 : Int32)) _ _ hM es g0 g1 g2 h
  rw [← er2] at L
  obtain ⟨lv, M, h, hM, es, g1⟩ := L
  replace h := qa_iload (n := 1) (q := 52) (qa_e rfl h) rfl g1
  have er := qa_ri (qa_e rfl h)
  subst er
  have e0 : ma_121_3 N σ = (r2.2, m1) := by exact Eq.trans (qa_ie em1) (Eq.trans (qa_ie er2) (rfl))
  rw [e0]
  exact ⟨rfl, hM, es⟩
noncomputable def mc_122_3_p41 (N : Nat) (l1 : Int32) (l4 : Int32) (s : Int32 × Int32 × Int32 × qa_S) : (Int32 × Int32 × Int32 × qa_S) ⊕ (Int32 × Int32 × Int32 × qa_S) :=
  if s.1 < (s.2.2.2 4 1) then
    qa_in ((ma_87_3 N (((1 : Int32) <<< (l4 &&& 31)) ||| ((1 : Int32) <<< (s.1 &&& 31))) s.2.2.2)) fun r2 =>
    .inl ((s.1 + (1 : Int32)), (if s.2.1 = (-9 : Int32) then (((10 : Int32) * l4) + s.1) else (if r2.1 < s.2.2.1 then (((10 : Int32) * l4) + s.1) else s.2.1)), (if s.2.1 = (-9 : Int32) then r2.1 else (if r2.1 < s.2.2.1 then r2.1 else s.2.2.1)), r2.2)
  else
    .inr (s.1, s.2.1, s.2.2.1, s.2.2.2)
theorem md_122_3_p41 {N F : Nat} {r : Option Value × q4_M} {l1 : Int32} {l4 : Int32} (hN : F ≤ N) : ∀ f n, f ≤ n → f ≤ F → ∀ (s : Int32 × Int32 × Int32 × qa_S) (lv : List (Nat × Value)) (M : q4_M), qa_O M → qa_s M = s.2.2.2 → q4_get lv 0 = some (.ref 3) → q4_get lv 1 = some (.int (l1)) → q4_get lv 2 = some (.int (s.2.1)) → q4_get lv 3 = some (.int (s.2.2.1)) → q4_get lv 4 = some (.int (l4)) → q4_get lv 5 = some (.int (s.1)) → q4_run f 122 41 lv [] M 0 0 = some r → ∃ lv M, q4_run F 122 98 lv [] M 0 0 = some r ∧ qa_O M ∧ qa_s M = (qa_wh (fun s => s) (mc_122_3_p41 N l1 l4) n s).2.2.2 ∧ q4_get lv 0 = some (.ref 3) ∧ q4_get lv 1 = some (.int (l1)) ∧ q4_get lv 2 = some (.int ((qa_wh (fun s => s) (mc_122_3_p41 N l1 l4) n s).2.1)) ∧ q4_get lv 3 = some (.int ((qa_wh (fun s => s) (mc_122_3_p41 N l1 l4) n s).2.2.1)) ∧ q4_get lv 4 = some (.int (l4)) := by
  intro f
  induction f with
  | zero => intro n _ _ s lv M hM es _ _ _ _ _ _ h; cases h
  | succ f ih =>
    intro n hn hF s lv M hM es g0 g1 g2 g3 g4 g5 h
    obtain ⟨n, rfl⟩ : ∃ n1, n = n1 + 1 := ⟨n - 1, by omega⟩
    replace hn : f ≤ n := Nat.le_of_succ_le_succ hn
    have hN := Nat.le_trans (Nat.le_of_succ_le hF) hN
    replace h := qa_iload (n := 5) (q := 43) (qa_d rfl h) rfl g5
    replace h := qa_aload (n := 0) (q := 44) (qa_e rfl h) rfl g0
    replace h := qa_gr (b := 4) (j := 0) (q := 47) (qa_e rfl h) rfl hM rfl (by decide)
    replace h := qa_gi (j := 1) (q := 50) (qa_e rfl h) rfl hM es rfl (by decide)
    by_cases c1 : s.1 < (s.2.2.2 4 1)
    · replace h := qa_iff (q := 53) (qa_e rfl h) rfl (qa_F_ge c1)
      replace h := qa_aload (n := 0) (q := 54) (qa_e rfl h) rfl g0
      replace h := qa_push (z := (1 : Int32)) (q := 55) (qa_e rfl h) rfl (by decide)
      replace h := qa_iload (n := 4) (q := 57) (qa_e rfl h) rfl g4
      replace h := qa_ishl (q := 58) (qa_e rfl h) rfl
      replace h := qa_push (z := (1 : Int32)) (q := 59) (qa_e rfl h) rfl (by decide)
      replace h := qa_iload (n := 5) (q := 61) (qa_e rfl h) rfl g5
      replace h := qa_ishl (q := 62) (qa_e rfl h) rfl
      replace h := qa_ior (q := 63) (qa_e rfl h) rfl
      obtain ⟨r2, er2⟩ : ∃ x, x = (ma_87_3 N (((1 : Int32) <<< (l4 &&& 31)) ||| ((1 : Int32) <<< (s.1 &&& 31))) s.2.2.2) := ⟨_, rfl⟩
      obtain ⟨M, h, hM, es⟩ := qa_c1 (y := 87) (as := [.ref 3, .int ((((1 : Int32) <<< (l4 &&& 31)) ||| ((1 : Int32) <<< (s.1 &&& 31))))]) (rest := []) (i := .invokevirtual 87) (q := 66) (qa_e rfl h) (Or.inl rfl) rfl rfl (by decide) rfl (fun r hc => mb_87_3 hN hM es hc)
      rw [← er2] at h es
      obtain ⟨lv, h, g, T⟩ := qa_istore (n := 6) (q := 68) (qa_e rfl h) rfl
      replace g0 := T _ _ g0 (by decide) (Or.inr rfl)
      replace g1 := T _ _ g1 (by decide) (Or.inr rfl)
      replace g2 := T _ _ g2 (by decide) (Or.inr rfl)
      replace g3 := T _ _ g3 (by decide) (Or.inr rfl)
      replace g4 := T _ _ g4 (by decide) (Or.inr rfl)
      replace g5 := T _ _ g5 (by decide) (Or.inr rfl)
      have g6 := g
      clear g T
      replace h := qa_iload (n := 2) (q := 69) (qa_e rfl h) rfl g2
      replace h := qa_push (z := (-9 : Int32)) (q := 71) (qa_e rfl h) rfl (by decide)
      obtain ⟨lv, M, h, hM, es, g0, g1, g2, g3, g4, g5⟩ : ∃ lv M, q4_run f 122 92 lv [] M 0 0 = some r ∧ qa_O M ∧ qa_s M = r2.2 ∧ q4_get lv 0 = some (.ref 3) ∧ q4_get lv 1 = some (.int (l1)) ∧ q4_get lv 2 = some (.int ((if s.2.1 = (-9 : Int32) then (((10 : Int32) * l4) + s.1) else (if r2.1 < s.2.2.1 then (((10 : Int32) * l4) + s.1) else s.2.1)))) ∧ q4_get lv 3 = some (.int ((if s.2.1 = (-9 : Int32) then r2.1 else (if r2.1 < s.2.2.1 then r2.1 else s.2.2.1)))) ∧ q4_get lv 4 = some (.int (l4)) ∧ q4_get lv 5 = some (.int (s.1)) := by
        by_cases c3 : s.2.1 = (-9 : Int32)
        · replace h := qa_ift (q := 80) (qa_e rfl h) rfl (qa_T_eq c3)
          replace h := qa_push (z := (10 : Int32)) (q := 82) (qa_e rfl h) rfl (by decide)
          replace h := qa_iload (n := 4) (q := 84) (qa_e rfl h) rfl g4
          replace h := qa_imul (q := 85) (qa_e rfl h) rfl
          replace h := qa_iload (n := 5) (q := 87) (qa_e rfl h) rfl g5
          replace h := qa_iadd (q := 88) (qa_e rfl h) rfl
          obtain ⟨lv, h, g, T⟩ := qa_istore (n := 2) (q := 89) (qa_e rfl h) rfl
          replace g0 := T _ _ g0 (by decide) (Or.inr rfl)
          replace g1 := T _ _ g1 (by decide) (Or.inr rfl)
          replace g4 := T _ _ g4 (by decide) (Or.inr rfl)
          replace g5 := T _ _ g5 (by decide) (Or.inr rfl)
          replace g6 := T _ _ g6 (by decide) (Or.inr rfl)
          have g2 := g
          clear g T
          replace h := qa_iload (n := 6) (q := 91) (qa_e rfl h) rfl g6
          obtain ⟨lv, h, g, T⟩ := qa_istore (n := 3) (q := 92) (qa_e rfl h) rfl
          replace g0 := T _ _ g0 (by decide) (Or.inr rfl)
          replace g1 := T _ _ g1 (by decide) (Or.inr rfl)
          replace g2 := T _ _ g2 (by decide) (Or.inr rfl)
          replace g4 := T _ _ g4 (by decide) (Or.inr rfl)
          replace g5 := T _ _ g5 (by decide) (Or.inr rfl)
          have g3 := g
          clear g T
          exact ⟨lv, M, h, hM, es, g0, g1, (qa_gi1 c3 g2), (qa_gi1 c3 g3), g4, g5⟩
        · replace h := qa_iff (q := 74) (qa_e rfl h) rfl (qa_F_eq c3)
          replace h := qa_iload (n := 6) (q := 76) (qa_e rfl h) rfl g6
          replace h := qa_iload (n := 3) (q := 77) (qa_e rfl h) rfl g3
          obtain ⟨lv, M, h, hM, es, g0, g1, g2, g3, g4, g5⟩ : ∃ lv M, q4_run f 122 92 lv [] M 0 0 = some r ∧ qa_O M ∧ qa_s M = r2.2 ∧ q4_get lv 0 = some (.ref 3) ∧ q4_get lv 1 = some (.int (l1)) ∧ q4_get lv 2 = some (.int ((if r2.1 < s.2.2.1 then (((10 : Int32) * l4) + s.1) else s.2.1))) ∧ q4_get lv 3 = some (.int ((if r2.1 < s.2.2.1 then r2.1 else s.2.2.1))) ∧ q4_get lv 4 = some (.int (l4)) ∧ q4_get lv 5 = some (.int (s.1)) := by
            by_cases c4 : r2.1 < s.2.2.1
            · replace h := qa_iff (q := 80) (qa_e rfl h) rfl (qa_F_ge c4)
              replace h := qa_push (z := (10 : Int32)) (q := 82) (qa_e rfl h) rfl (by decide)
              replace h := qa_iload (n := 4) (q := 84) (qa_e rfl h) rfl g4
              replace h := qa_imul (q := 85) (qa_e rfl h) rfl
              replace h := qa_iload (n := 5) (q := 87) (qa_e rfl h) rfl g5
              replace h := qa_iadd (q := 88) (qa_e rfl h) rfl
              obtain ⟨lv, h, g, T⟩ := qa_istore (n := 2) (q := 89) (qa_e rfl h) rfl
              replace g0 := T _ _ g0 (by decide) (Or.inr rfl)
              replace g1 := T _ _ g1 (by decide) (Or.inr rfl)
              replace g4 := T _ _ g4 (by decide) (Or.inr rfl)
              replace g5 := T _ _ g5 (by decide) (Or.inr rfl)
              replace g6 := T _ _ g6 (by decide) (Or.inr rfl)
              have g2 := g
              clear g T
              replace h := qa_iload (n := 6) (q := 91) (qa_e rfl h) rfl g6
              obtain ⟨lv, h, g, T⟩ := qa_istore (n := 3) (q := 92) (qa_e rfl h) rfl
              replace g0 := T _ _ g0 (by decide) (Or.inr rfl)
              replace g1 := T _ _ g1 (by decide) (Or.inr rfl)
              replace g2 := T _ _ g2 (by decide) (Or.inr rfl)
              replace g4 := T _ _ g4 (by decide) (Or.inr rfl)
              replace g5 := T _ _ g5 (by decide) (Or.inr rfl)
              have g3 := g
              clear g T
              exact ⟨lv, M, h, hM, es, g0, g1, (qa_gi1 c4 g2), (qa_gi1 c4 g3), g4, g5⟩
            · replace h := qa_ift (q := 92) (qa_e rfl h) rfl (qa_T_ge c4)
              exact ⟨lv, M, h, hM, es, g0, g1, (qa_gi0 c4 g2), (qa_gi0 c4 g3), g4, g5⟩
          exact ⟨lv, M, h, hM, es, g0, g1, (qa_gi0 c3 g2), (qa_gi0 c3 g3), g4, g5⟩
      obtain ⟨lv, h, g, T⟩ := qa_iinc (n := 5) (z := (1 : Int32)) (q := 95) (qa_e rfl h) rfl (by decide) g5
      replace g0 := T _ _ g0 (by decide) (Or.inr rfl)
      replace g1 := T _ _ g1 (by decide) (Or.inr rfl)
      replace g2 := T _ _ g2 (by decide) (Or.inr rfl)
      replace g3 := T _ _ g3 (by decide) (Or.inr rfl)
      replace g4 := T _ _ g4 (by decide) (Or.inr rfl)
      replace g5 := g
      clear g T
      replace h := qa_goto (q := 41) (qa_e rfl h) rfl
      have e0 : mc_122_3_p41 N l1 l4 s = .inl ((s.1 + (1 : Int32)), (if s.2.1 = (-9 : Int32) then (((10 : Int32) * l4) + s.1) else (if r2.1 < s.2.2.1 then (((10 : Int32) * l4) + s.1) else s.2.1)), (if s.2.1 = (-9 : Int32) then r2.1 else (if r2.1 < s.2.2.1 then r2.1 else s.2.2.1)), r2.2) := by exact Eq.trans (if_pos c1) (Eq.trans (qa_ie er2) (rfl))
      rw [qa_whl e0]
      exact ih n hn (Nat.le_of_succ_le hF) ((s.1 + (1 : Int32)), (if s.2.1 = (-9 : Int32) then (((10 : Int32) * l4) + s.1) else (if r2.1 < s.2.2.1 then (((10 : Int32) * l4) + s.1) else s.2.1)), (if s.2.1 = (-9 : Int32) then r2.1 else (if r2.1 < s.2.2.1 then r2.1 else s.2.2.1)), r2.2) _ _ hM es g0 g1 g2 g3 g4 g5 h
    · replace h := qa_ift (q := 98) (qa_e rfl h) rfl (qa_T_ge c1)
      have e0 : mc_122_3_p41 N l1 l4 s = .inr (s.1, s.2.1, s.2.2.1, s.2.2.2) := by exact Eq.trans (if_neg c1) (rfl)
      rw [qa_whr e0]
      exact ⟨_, _, q61_mono f F _ _ _ _ _ _ _ _ (Nat.le_of_succ_le hF) h, hM, es, g0, g1, g2, g3, g4⟩
noncomputable def mc_122_3_p23 (N : Nat) (l1 : Int32) (s : Int32 × Int32 × Int32 × qa_S) : (Int32 × Int32 × Int32 × qa_S) ⊕ (Int32 × Int32 × Int32 × qa_S) :=
  if s.1 < (s.2.2.2 4 1) then
    qa_in ((qa_wh (fun s => s) (mc_122_3_p41 N l1 s.1) N ((s.1 + (1 : Int32)), s.2.1, s.2.2.1, s.2.2.2))) fun r2 =>
    .inl ((s.1 + (1 : Int32)), r2.2.1, r2.2.2.1, r2.2.2.2)
  else
    .inr (s.1, s.2.1, s.2.2.1, s.2.2.2)
theorem md_122_3_p23 {N F : Nat} {r : Option Value × q4_M} {l1 : Int32} (hN : F ≤ N) : ∀ f n, f ≤ n → f ≤ F → ∀ (s : Int32 × Int32 × Int32 × qa_S) (lv : List (Nat × Value)) (M : q4_M), qa_O M → qa_s M = s.2.2.2 → q4_get lv 0 = some (.ref 3) → q4_get lv 1 = some (.int (l1)) → q4_get lv 2 = some (.int (s.2.1)) → q4_get lv 3 = some (.int (s.2.2.1)) → q4_get lv 4 = some (.int (s.1)) → q4_run f 122 23 lv [] M 0 0 = some r → ∃ lv M, q4_run F 122 104 lv [] M 0 0 = some r ∧ qa_O M ∧ qa_s M = (qa_wh (fun s => s) (mc_122_3_p23 N l1) n s).2.2.2 ∧ q4_get lv 1 = some (.int (l1)) ∧ q4_get lv 2 = some (.int ((qa_wh (fun s => s) (mc_122_3_p23 N l1) n s).2.1)) ∧ q4_get lv 3 = some (.int ((qa_wh (fun s => s) (mc_122_3_p23 N l1) n s).2.2.1)) := by
  intro f
  induction f with
  | zero => intro n _ _ s lv M hM es _ _ _ _ _ h; cases h
  | succ f ih =>
    intro n hn hF s lv M hM es g0 g1 g2 g3 g4 h
    obtain ⟨n, rfl⟩ : ∃ n1, n = n1 + 1 := ⟨n - 1, by omega⟩
    replace hn : f ≤ n := Nat.le_of_succ_le_succ hn
    have hN := Nat.le_trans (Nat.le_of_succ_le hF) hN
    replace h := qa_iload (n := 4) (q := 25) (qa_d rfl h) rfl g4
    replace h := qa_aload (n := 0) (q := 26) (qa_e rfl h) rfl g0
    replace h := qa_gr (b := 4) (j := 0) (q := 29) (qa_e rfl h) rfl hM rfl (by decide)
    replace h := qa_gi (j := 1) (q := 32) (qa_e rfl h) rfl hM es rfl (by decide)
    by_cases c1 : s.1 < (s.2.2.2 4 1)
    · replace h := qa_iff (q := 35) (qa_e rfl h) rfl (qa_F_ge c1)
      replace h := qa_iload (n := 4) (q := 37) (qa_e rfl h) rfl g4
      replace h := qa_push (z := (1 : Int32)) (q := 38) (qa_e rfl h) rfl (by decide)
      replace h := qa_iadd (q := 39) (qa_e rfl h) rfl
      obtain ⟨lv, h, g, T⟩ := qa_istore (n := 5) (q := 41) (qa_e rfl h) rfl
      replace g0 := T _ _ g0 (by decide) (Or.inr rfl)
      replace g1 := T _ _ g1 (by decide) (Or.inr rfl)
      replace g2 := T _ _ g2 (by decide) (Or.inr rfl)
      replace g3 := T _ _ g3 (by decide) (Or.inr rfl)
      replace g4 := T _ _ g4 (by decide) (Or.inr rfl)
      have g5 := g
      clear g T
      obtain ⟨r2, er2⟩ : ∃ x, x = (qa_wh (fun s => s) (mc_122_3_p41 N l1 s.1) N ((s.1 + (1 : Int32)), s.2.1, s.2.2.1, s.2.2.2)) := ⟨_, rfl⟩
      have L := md_122_3_p41 (l1 := l1) (l4 := s.1) (F := f) (N := N) (r := r) hN f N hN (Nat.le_refl f) ((s.1 + (1 : Int32)), s.2.1, s.2.2.1, s.2.2.2) _ _ hM es g0 g1 g2 g3 g4 g5 h
      rw [← er2] at L
      obtain ⟨lv, M, h, hM, es, g0, g1, g2, g3, g4⟩ := L
      obtain ⟨lv, h, g, T⟩ := qa_iinc (n := 4) (z := (1 : Int32)) (q := 101) (qa_e rfl h) rfl (by decide) g4
      replace g0 := T _ _ g0 (by decide) (Or.inr rfl)
      replace g1 := T _ _ g1 (by decide) (Or.inr rfl)
      replace g2 := T _ _ g2 (by decide) (Or.inr rfl)
      replace g3 := T _ _ g3 (by decide) (Or.inr rfl)
      replace g4 := g
      clear g T
      replace h := qa_goto (q := 23) (qa_e rfl h) rfl
      have e0 : mc_122_3_p23 N l1 s = .inl ((s.1 + (1 : Int32)), r2.2.1, r2.2.2.1, r2.2.2.2) := by exact Eq.trans (if_pos c1) (Eq.trans (qa_ie er2) (rfl))
      rw [qa_whl e0]
      exact ih n hn (Nat.le_of_succ_le hF) ((s.1 + (1 : Int32)), r2.2.1, r2.2.2.1, r2.2.2.2) _ _ hM es g0 g1 g2 g3 g4 h
    · replace h := qa_ift (q := 104) (qa_e rfl h) rfl (qa_T_ge c1)
      have e0 : mc_122_3_p23 N l1 s = .inr (s.1, s.2.1, s.2.2.1, s.2.2.2) := by exact Eq.trans (if_neg c1) (rfl)
      rw [qa_whr e0]
      exact ⟨_, _, q61_mono f F _ _ _ _ _ _ _ _ (Nat.le_of_succ_le hF) h, hM, es, g1, g2, g3⟩
/-- BuriedBySevens, duo, (I)I -/
noncomputable def ma_122_3 (N : Nat) (a1 : Int32) (σ : qa_S) : Int32 × qa_S :=
  if (ma_57 a1) = (0 : Int32) then
    qa_in ((ma_9_3 (-2 : Int32) σ)) fun r2 =>
    (r2.1, r2.2)
  else
    qa_in ((qa_wh (fun s => s) (mc_122_3_p23 N a1) N ((0 : Int32), (-9 : Int32), (-9 : Int32), σ))) fun r3 =>
    ((if a1 = (0 : Int32) then r3.2.1 else r3.2.2.1), r3.2.2.2)
theorem mb_122_3 {f N : Nat} (hN : f ≤ N) {M : q4_M} {r : Option Value × q4_M} {σ : qa_S} {a1 : Int32} (hM : qa_O M) (es : qa_s M = σ) (h : q4_run f 122 0 (lv_args 0 [.ref 3, .int (a1)]) [] M 0 0 = some r) : r.1 = some (.int ((ma_122_3 N a1 σ).1)) ∧ qa_O r.2 ∧ qa_s r.2 = (ma_122_3 N a1 σ).2 := by
  obtain ⟨lv, el⟩ : ∃ l, l = lv_args 0 [.ref 3, .int (a1)] := ⟨_, rfl⟩
  have g0 : q4_get lv 0 = some (.ref 3) := by rw [el]; rfl
  have g1 : q4_get lv 1 = some (.int (a1)) := by rw [el]; rfl
  rw [← el] at h
  clear el
  replace h := qa_iload (n := 1) (q := 1) (qa_e rfl h) rfl g1
  obtain ⟨M, h, hM, es⟩ := qa_c1 (y := 57) (as := [.int (a1)]) (rest := []) (i := .invokestatic 57) (q := 4) (qa_e rfl h) (Or.inr rfl) rfl rfl (by decide) rfl (fun r hc => mb_57 hM es hc)
  by_cases c1 : (ma_57 a1) = (0 : Int32)
  · replace h := qa_icf (q := 7) (qa_e rfl h) rfl (qa_F_ne c1)
    replace h := qa_aload (n := 0) (q := 8) (qa_e rfl h) rfl g0
    replace h := qa_push (z := (-2 : Int32)) (q := 10) (qa_e rfl h) rfl (by decide)
    obtain ⟨r2, er2⟩ : ∃ x, x = (ma_9_3 (-2 : Int32) σ) := ⟨_, rfl⟩
    obtain ⟨M, h, hM, es⟩ := qa_c1 (y := 9) (as := [.ref 3, .int ((-2 : Int32))]) (rest := []) (i := .invokevirtual 9) (q := 13) (qa_e rfl h) (Or.inl rfl) rfl rfl (by decide) rfl (fun r hc => mb_9_3 hM es hc)
    rw [← er2] at h es
    have er := qa_ri (qa_e rfl h)
    subst er
    have e0 : ma_122_3 N a1 σ = (r2.1, r2.2) := by exact Eq.trans (if_pos c1) (Eq.trans (qa_ie er2) (rfl))
    rw [e0]
    exact ⟨rfl, hM, es⟩
  · replace h := qa_ict (q := 14) (qa_e rfl h) rfl (qa_T_ne c1)
    replace h := qa_push (z := (-9 : Int32)) (q := 16) (qa_e rfl h) rfl (by decide)
    obtain ⟨lv, h, g, T⟩ := qa_istore (n := 2) (q := 17) (qa_e rfl h) rfl
    replace g0 := T _ _ g0 (by decide) (Or.inr rfl)
    replace g1 := T _ _ g1 (by decide) (Or.inr rfl)
    have g2 := g
    clear g T
    replace h := qa_push (z := (-9 : Int32)) (q := 19) (qa_e rfl h) rfl (by decide)
    obtain ⟨lv, h, g, T⟩ := qa_istore (n := 3) (q := 20) (qa_e rfl h) rfl
    replace g0 := T _ _ g0 (by decide) (Or.inr rfl)
    replace g1 := T _ _ g1 (by decide) (Or.inr rfl)
    replace g2 := T _ _ g2 (by decide) (Or.inr rfl)
    have g3 := g
    clear g T
    replace h := qa_push (z := (0 : Int32)) (q := 21) (qa_e rfl h) rfl (by decide)
    obtain ⟨lv, h, g, T⟩ := qa_istore (n := 4) (q := 23) (qa_e rfl h) rfl
    replace g0 := T _ _ g0 (by decide) (Or.inr rfl)
    replace g1 := T _ _ g1 (by decide) (Or.inr rfl)
    replace g2 := T _ _ g2 (by decide) (Or.inr rfl)
    replace g3 := T _ _ g3 (by decide) (Or.inr rfl)
    have g4 := g
    clear g T
    obtain ⟨r3, er3⟩ : ∃ x, x = (qa_wh (fun s => s) (mc_122_3_p23 N a1) N ((0 : Int32), (-9 : Int32), (-9 : Int32), σ)) := ⟨_, rfl⟩
    have L := md_122_3_p23 (l1 := a1) (F := f) (N := N) (r := r) hN f N hN (Nat.le_refl f) ((0 : Int32), (-9 : Int32), (-9 : Int32), σ) _ _ hM es g0 g1 g2 g3 g4 h
    rw [← er3] at L
    obtain ⟨lv, M, h, hM, es, g1, g2, g3⟩ := L
    replace h := qa_iload (n := 1) (q := 105) (qa_e rfl h) rfl g1
    obtain ⟨lv, M, h, hM, es⟩ : ∃ lv M, q4_run f 122 113 lv [.int ((if a1 = (0 : Int32) then r3.2.1 else r3.2.2.1))] M 0 0 = some r ∧ qa_O M ∧ qa_s M = r3.2.2.2 := by
      by_cases c4 : a1 = (0 : Int32)
      · replace h := qa_icf (q := 108) (qa_e rfl h) rfl (qa_F_ne c4)
        replace h := qa_iload (n := 2) (q := 109) (qa_e rfl h) rfl g2
        replace h := qa_goto (q := 113) (qa_e rfl h) rfl
        exact ⟨lv, M, (qa_hi1 c4 h), hM, es⟩
      · replace h := qa_ict (q := 112) (qa_e rfl h) rfl (qa_T_ne c4)
        replace h := qa_iload (n := 3) (q := 113) (qa_e rfl h) rfl g3
        exact ⟨lv, M, (qa_hi0 c4 h), hM, es⟩
    have er := qa_ri (qa_e rfl h)
    subst er
    have e0 : ma_122_3 N a1 σ = ((if a1 = (0 : Int32) then r3.2.1 else r3.2.2.1), r3.2.2.2) := by exact Eq.trans (if_neg c1) (Eq.trans (qa_ie er3) (rfl))
    rw [e0]
    exact ⟨rfl, hM, es⟩
noncomputable def mc_123_3_p56 (N : Nat) (l1 : Int32) (l4 : Int32) (l5 : Int32) (s : Int32 × Int32 × Int32 × qa_S) : (Int32 × Int32 × Int32 × qa_S) ⊕ (Int32 × Int32 × Int32 × qa_S) :=
  if (l5 + (1 : Int32)) < s.1 then
    .inr (s.1, s.2.1, s.2.2.1, s.2.2.2)
  else
    qa_in ((ma_117_3 N l4 s.1 s.2.2.2)) fun m4 =>
    qa_in ((ma_99_3 N 94 95 m4)) fun r5 =>
    qa_in ((if (9 : Int32) < s.1 then s.2.2.2 else m4)) fun m8 =>
    qa_in ((if s.1 < (0 : Int32) then s.2.2.2 else m8)) fun m9 =>
    .inl ((s.1 + (2 : Int32)), (if s.1 < (0 : Int32) then s.2.1 else (if (9 : Int32) < s.1 then s.2.1 else (if (0 : Int32) < r5 then s.2.1 else (if s.2.2.1 = (0 : Int32) then (((10 : Int32) * l4) + s.1) else s.2.1)))), (if s.1 < (0 : Int32) then s.2.2.1 else (if (9 : Int32) < s.1 then s.2.2.1 else (if (0 : Int32) < r5 then s.2.2.1 else (s.2.2.1 + (1 : Int32))))), m9)
theorem md_123_3_p56 {N F : Nat} {r : Option Value × q4_M} {l1 : Int32} {l4 : Int32} {l5 : Int32} (hN : F ≤ N) : ∀ f n, f ≤ n → f ≤ F → ∀ (s : Int32 × Int32 × Int32 × qa_S) (lv : List (Nat × Value)) (M : q4_M), qa_O M → qa_s M = s.2.2.2 → q4_get lv 0 = some (.ref 3) → q4_get lv 1 = some (.int (l1)) → q4_get lv 2 = some (.int (s.2.1)) → q4_get lv 3 = some (.int (s.2.2.1)) → q4_get lv 4 = some (.int (l4)) → q4_get lv 5 = some (.int (l5)) → q4_get lv 6 = some (.int (s.1)) → q4_run f 123 56 lv [] M 0 0 = some r → ∃ lv M, q4_run F 123 132 lv [] M 0 0 = some r ∧ qa_O M ∧ qa_s M = (qa_wh (fun s => s) (mc_123_3_p56 N l1 l4 l5) n s).2.2.2 ∧ q4_get lv 0 = some (.ref 3) ∧ q4_get lv 1 = some (.int (l1)) ∧ q4_get lv 2 = some (.int ((qa_wh (fun s => s) (mc_123_3_p56 N l1 l4 l5) n s).2.1)) ∧ q4_get lv 3 = some (.int ((qa_wh (fun s => s) (mc_123_3_p56 N l1 l4 l5) n s).2.2.1)) ∧ q4_get lv 4 = some (.int (l4)) := by
  intro f
  induction f with
  | zero => intro n _ _ s lv M hM es _ _ _ _ _ _ _ h; cases h
  | succ f ih =>
    intro n hn hF s lv M hM es g0 g1 g2 g3 g4 g5 g6 h
    obtain ⟨n, rfl⟩ : ∃ n1, n = n1 + 1 := ⟨n - 1, by omega⟩
    replace hn : f ≤ n := Nat.le_of_succ_le_succ hn
    have hN := Nat.le_trans (Nat.le_of_succ_le hF) hN
    replace h := qa_iload (n := 6) (q := 58) (qa_d rfl h) rfl g6
    replace h := qa_iload (n := 5) (q := 60) (qa_e rfl h) rfl g5
    replace h := qa_push (z := (1 : Int32)) (q := 61) (qa_e rfl h) rfl (by decide)
    replace h := qa_iadd (q := 62) (qa_e rfl h) rfl
    by_cases c1 : (l5 + (1 : Int32)) < s.1
    · replace h := qa_ift (q := 132) (qa_e rfl h) rfl (qa_T_gt c1)
      have e0 : mc_123_3_p56 N l1 l4 l5 s = .inr (s.1, s.2.1, s.2.2.1, s.2.2.2) := by exact Eq.trans (if_pos c1) (rfl)
      rw [qa_whr e0]
      exact ⟨_, _, q61_mono f F _ _ _ _ _ _ _ _ (Nat.le_of_succ_le hF) h, hM, es, g0, g1, g2, g3, g4⟩
    · replace h := qa_iff (q := 65) (qa_e rfl h) rfl (qa_F_gt c1)
      replace h := qa_iload (n := 6) (q := 67) (qa_e rfl h) rfl g6
      obtain ⟨m4, em4⟩ : ∃ x, x = (ma_117_3 N l4 s.1 s.2.2.2) := ⟨_, rfl⟩
      obtain ⟨r5, er5⟩ : ∃ x, x = (ma_99_3 N 94 95 m4) := ⟨_, rfl⟩
      obtain ⟨m8, em8⟩ : ∃ x, x = (if (9 : Int32) < s.1 then s.2.2.2 else m4) := ⟨_, rfl⟩
      obtain ⟨m9, em9⟩ : ∃ x, x = (if s.1 < (0 : Int32) then s.2.2.2 else m8) := ⟨_, rfl⟩
      obtain ⟨lv, M, h, hM, es, g0, g1, g2, g3, g4, g5, g6⟩ : ∃ lv M, q4_run f 123 126 lv [] M 0 0 = some r ∧ qa_O M ∧ qa_s M = m9 ∧ q4_get lv 0 = some (.ref 3) ∧ q4_get lv 1 = some (.int (l1)) ∧ q4_get lv 2 = some (.int ((if s.1 < (0 : Int32) then s.2.1 else (if (9 : Int32) < s.1 then s.2.1 else (if (0 : Int32) < r5 then s.2.1 else (if s.2.2.1 = (0 : Int32) then (((10 : Int32) * l4) + s.1) else s.2.1)))))) ∧ q4_get lv 3 = some (.int ((if s.1 < (0 : Int32) then s.2.2.1 else (if (9 : Int32) < s.1 then s.2.2.1 else (if (0 : Int32) < r5 then s.2.2.1 else (s.2.2.1 + (1 : Int32))))))) ∧ q4_get lv 4 = some (.int (l4)) ∧ q4_get lv 5 = some (.int (l5)) ∧ q4_get lv 6 = some (.int (s.1)) := by
        by_cases c2 : s.1 < (0 : Int32)
        · replace h := qa_ict (q := 126) (qa_e rfl h) rfl (qa_T_lt c2)
          exact ⟨lv, M, h, hM, ((qa_ms1 c2 es).trans em9.symm), g0, g1, (qa_gi1 c2 g2), (qa_gi1 c2 g3), g4, g5, g6⟩
        · replace h := qa_icf (q := 70) (qa_e rfl h) rfl (qa_F_lt c2)
          replace h := qa_iload (n := 6) (q := 72) (qa_e rfl h) rfl g6
          replace h := qa_push (z := (9 : Int32)) (q := 74) (qa_e rfl h) rfl (by decide)
          obtain ⟨lv, M, h, hM, es, g0, g1, g2, g3, g4, g5, g6⟩ : ∃ lv M, q4_run f 123 126 lv [] M 0 0 = some r ∧ qa_O M ∧ qa_s M = m8 ∧ q4_get lv 0 = some (.ref 3) ∧ q4_get lv 1 = some (.int (l1)) ∧ q4_get lv 2 = some (.int ((if (9 : Int32) < s.1 then s.2.1 else (if (0 : Int32) < r5 then s.2.1 else (if s.2.2.1 = (0 : Int32) then (((10 : Int32) * l4) + s.1) else s.2.1))))) ∧ q4_get lv 3 = some (.int ((if (9 : Int32) < s.1 then s.2.2.1 else (if (0 : Int32) < r5 then s.2.2.1 else (s.2.2.1 + (1 : Int32)))))) ∧ q4_get lv 4 = some (.int (l4)) ∧ q4_get lv 5 = some (.int (l5)) ∧ q4_get lv 6 = some (.int (s.1)) := by
            by_cases c3 : (9 : Int32) < s.1
            · replace h := qa_iff (q := 77) (qa_e rfl h) rfl (qa_F_le c3)
              replace h := qa_goto (q := 126) (qa_e rfl h) rfl
              exact ⟨lv, M, h, hM, ((qa_ms1 c3 es).trans em8.symm), g0, g1, (qa_gi1 c3 g2), (qa_gi1 c3 g3), g4, g5, g6⟩
            · replace h := qa_ift (q := 80) (qa_e rfl h) rfl (qa_T_le c3)
              replace h := qa_aload (n := 0) (q := 81) (qa_e rfl h) rfl g0
              replace h := qa_iload (n := 4) (q := 83) (qa_e rfl h) rfl g4
              replace h := qa_iload (n := 6) (q := 85) (qa_e rfl h) rfl g6
              obtain ⟨M, h, hM, es⟩ := qa_c0 (y := 117) (as := [.ref 3, .int (l4), .int (s.1)]) (rest := []) (i := .invokevirtual 117) (q := 88) (qa_e rfl h) (Or.inl rfl) rfl rfl (by decide) rfl (fun r hc => mb_117_3 hN hM es hc)
              rw [← em4] at es
              replace h := qa_aload (n := 0) (q := 89) (qa_e rfl h) rfl g0
              replace h := qa_aload (n := 0) (q := 90) (qa_e rfl h) rfl g0
              replace h := qa_gr (b := 94) (j := 11) (q := 93) (qa_e rfl h) rfl hM rfl (by decide)
              replace h := qa_aload (n := 0) (q := 94) (qa_e rfl h) rfl g0
              replace h := qa_gr (b := 95) (j := 12) (q := 97) (qa_e rfl h) rfl hM rfl (by decide)
              obtain ⟨M, h, hM, es⟩ := qa_c1 (y := 99) (as := [.ref 3, .ref 94, .ref 95]) (rest := []) (i := .invokevirtual 99) (q := 100) (qa_e rfl h) (Or.inl rfl) rfl rfl (by decide) rfl (fun r hc => mb_99_3 hN hM es hc)
              rw [← er5] at h
              obtain ⟨lv, M, h, hM, es, g0, g1, g2, g3, g4, g5, g6⟩ : ∃ lv M, q4_run f 123 126 lv [] M 0 0 = some r ∧ qa_O M ∧ qa_s M = m4 ∧ q4_get lv 0 = some (.ref 3) ∧ q4_get lv 1 = some (.int (l1)) ∧ q4_get lv 2 = some (.int ((if (0 : Int32) < r5 then s.2.1 else (if s.2.2.1 = (0 : Int32) then (((10 : Int32) * l4) + s.1) else s.2.1)))) ∧ q4_get lv 3 = some (.int ((if (0 : Int32) < r5 then s.2.2.1 else (s.2.2.1 + (1 : Int32))))) ∧ q4_get lv 4 = some (.int (l4)) ∧ q4_get lv 5 = some (.int (l5)) ∧ q4_get lv 6 = some (.int (s.1)) := by
                by_cases c6 : (0 : Int32) < r5
                · replace h := qa_icf (q := 103) (qa_e rfl h) rfl (qa_F_le c6)
                  replace h := qa_goto (q := 126) (qa_e rfl h) rfl
                  exact ⟨lv, M, h, hM, es, g0, g1, (qa_gi1 c6 g2), (qa_gi1 c6 g3), g4, g5, g6⟩
                · replace h := qa_ict (q := 106) (qa_e rfl h) rfl (qa_T_le c6)
                  replace h := qa_iload (n := 3) (q := 107) (qa_e rfl h) rfl g3
                  obtain ⟨lv, M, h, hM, es, g0, g1, g3, g4, g5, g6⟩ : ∃ lv M, q4_run f 123 122 lv [.int ((if s.2.2.1 = (0 : Int32) then (((10 : Int32) * l4) + s.1) else s.2.1))] M 0 0 = some r ∧ qa_O M ∧ qa_s M = m4 ∧ q4_get lv 0 = some (.ref 3) ∧ q4_get lv 1 = some (.int (l1)) ∧ q4_get lv 3 = some (.int (s.2.2.1)) ∧ q4_get lv 4 = some (.int (l4)) ∧ q4_get lv 5 = some (.int (l5)) ∧ q4_get lv 6 = some (.int (s.1)) := by
                    by_cases c7 : s.2.2.1 = (0 : Int32)
                    · replace h := qa_icf (q := 110) (qa_e rfl h) rfl (qa_F_ne c7)
                      replace h := qa_push (z := (10 : Int32)) (q := 112) (qa_e rfl h) rfl (by decide)
                      replace h := qa_iload (n := 4) (q := 114) (qa_e rfl h) rfl g4
                      replace h := qa_imul (q := 115) (qa_e rfl h) rfl
                      replace h := qa_iload (n := 6) (q := 117) (qa_e rfl h) rfl g6
                      replace h := qa_iadd (q := 118) (qa_e rfl h) rfl
                      replace h := qa_goto (q := 122) (qa_e rfl h) rfl
                      exact ⟨lv, M, (qa_hi1 c7 h), hM, es, g0, g1, g3, g4, g5, g6⟩
                    · replace h := qa_ict (q := 121) (qa_e rfl h) rfl (qa_T_ne c7)
                      replace h := qa_iload (n := 2) (q := 122) (qa_e rfl h) rfl g2
                      exact ⟨lv, M, (qa_hi0 c7 h), hM, es, g0, g1, g3, g4, g5, g6⟩
                  obtain ⟨lv, h, g, T⟩ := qa_istore (n := 2) (q := 123) (qa_e rfl h) rfl
                  replace g0 := T _ _ g0 (by decide) (Or.inr rfl)
                  replace g1 := T _ _ g1 (by decide) (Or.inr rfl)
                  replace g3 := T _ _ g3 (by decide) (Or.inr rfl)
                  replace g4 := T _ _ g4 (by decide) (Or.inr rfl)
                  replace g5 := T _ _ g5 (by decide) (Or.inr rfl)
                  replace g6 := T _ _ g6 (by decide) (Or.inr rfl)
                  have g2 := g
                  clear g T
                  obtain ⟨lv, h, g, T⟩ := qa_iinc (n := 3) (z := (1 : Int32)) (q := 126) (qa_e rfl h) rfl (by decide) g3
                  replace g0 := T _ _ g0 (by decide) (Or.inr rfl)
                  replace g1 := T _ _ g1 (by decide) (Or.inr rfl)
                  replace g2 := T _ _ g2 (by decide) (Or.inr rfl)
                  replace g4 := T _ _ g4 (by decide) (Or.inr rfl)
                  replace g5 := T _ _ g5 (by decide) (Or.inr rfl)
                  replace g6 := T _ _ g6 (by decide) (Or.inr rfl)
                  replace g3 := g
                  clear g T
                  exact ⟨lv, M, h, hM, es, g0, g1, (qa_gi0 c6 g2), (qa_gi0 c6 g3), g4, g5, g6⟩
              exact ⟨lv, M, h, hM, ((qa_ms0 c3 es).trans em8.symm), g0, g1, (qa_gi0 c3 g2), (qa_gi0 c3 g3), g4, g5, g6⟩
          exact ⟨lv, M, h, hM, ((qa_ms0 c2 es).trans em9.symm), g0, g1, (qa_gi0 c2 g2), (qa_gi0 c2 g3), g4, g5, g6⟩
      obtain ⟨lv, h, g, T⟩ := qa_iinc (n := 6) (z := (2 : Int32)) (q := 129) (qa_e rfl h) rfl (by decide) g6
      replace g0 := T _ _ g0 (by decide) (Or.inr rfl)
      replace g1 := T _ _ g1 (by decide) (Or.inr rfl)
      replace g2 := T _ _ g2 (by decide) (Or.inr rfl)
      replace g3 := T _ _ g3 (by decide) (Or.inr rfl)
      replace g4 := T _ _ g4 (by decide) (Or.inr rfl)
      replace g5 := T _ _ g5 (by decide) (Or.inr rfl)
      replace g6 := g
      clear g T
      replace h := qa_goto (q := 56) (qa_e rfl h) rfl
      have e0 : mc_123_3_p56 N l1 l4 l5 s = .inl ((s.1 + (2 : Int32)), (if s.1 < (0 : Int32) then s.2.1 else (if (9 : Int32) < s.1 then s.2.1 else (if (0 : Int32) < r5 then s.2.1 else (if s.2.2.1 = (0 : Int32) then (((10 : Int32) * l4) + s.1) else s.2.1)))), (if s.1 < (0 : Int32) then s.2.2.1 else (if (9 : Int32) < s.1 then s.2.2.1 else (if (0 : Int32) < r5 then s.2.2.1 else (s.2.2.1 + (1 : Int32))))), m9) := by exact Eq.trans (if_neg c1) (Eq.trans (qa_ie em4) (Eq.trans (qa_ie er5) (Eq.trans (qa_ie em8) (Eq.trans (qa_ie em9) (rfl)))))
      rw [qa_whl e0]
      exact ih n hn (Nat.le_of_succ_le hF) ((s.1 + (2 : Int32)), (if s.1 < (0 : Int32) then s.2.1 else (if (9 : Int32) < s.1 then s.2.1 else (if (0 : Int32) < r5 then s.2.1 else (if s.2.2.1 = (0 : Int32) then (((10 : Int32) * l4) + s.1) else s.2.1)))), (if s.1 < (0 : Int32) then s.2.2.1 else (if (9 : Int32) < s.1 then s.2.2.1 else (if (0 : Int32) < r5 then s.2.2.1 else (s.2.2.1 + (1 : Int32))))), m9) _ _ hM es g0 g1 g2 g3 g4 g5 g6 h
noncomputable def mc_123_3_p26 (N : Nat) (l1 : Int32) (s : Int32 × Int32 × Int32 × qa_S) : (Int32 × Int32 × Int32 × qa_S) ⊕ (Int32 × Int32 × Int32 × qa_S) :=
  if s.1 < (s.2.2.2 4 0) then
    qa_in ((qa_wh (fun s => s) (mc_123_3_p56 N l1 s.1 (s.2.2.2 7 s.1.toNatClampNeg)) N (((s.2.2.2 7 s.1.toNatClampNeg) - (1 : Int32)), s.2.1, s.2.2.1, s.2.2.2))) fun r2 =>
    .inl ((s.1 + (1 : Int32)), r2.2.1, r2.2.2.1, r2.2.2.2)
  else
    .inr (s.1, s.2.1, s.2.2.1, s.2.2.2)
theorem md_123_3_p26 {N F : Nat} {r : Option Value × q4_M} {l1 : Int32} (hN : F ≤ N) : ∀ f n, f ≤ n → f ≤ F → ∀ (s : Int32 × Int32 × Int32 × qa_S) (lv : List (Nat × Value)) (M : q4_M), qa_O M → qa_s M = s.2.2.2 → q4_get lv 0 = some (.ref 3) → q4_get lv 1 = some (.int (l1)) → q4_get lv 2 = some (.int (s.2.1)) → q4_get lv 3 = some (.int (s.2.2.1)) → q4_get lv 4 = some (.int (s.1)) → q4_run f 123 26 lv [] M 0 0 = some r → ∃ lv M, q4_run F 123 138 lv [] M 0 0 = some r ∧ qa_O M ∧ qa_s M = (qa_wh (fun s => s) (mc_123_3_p26 N l1) n s).2.2.2 ∧ q4_get lv 1 = some (.int (l1)) ∧ q4_get lv 2 = some (.int ((qa_wh (fun s => s) (mc_123_3_p26 N l1) n s).2.1)) ∧ q4_get lv 3 = some (.int ((qa_wh (fun s => s) (mc_123_3_p26 N l1) n s).2.2.1)) := by
  intro f
  induction f with
  | zero => intro n _ _ s lv M hM es _ _ _ _ _ h; cases h
  | succ f ih =>
    intro n hn hF s lv M hM es g0 g1 g2 g3 g4 h
    obtain ⟨n, rfl⟩ : ∃ n1, n = n1 + 1 := ⟨n - 1, by omega⟩
    replace hn : f ≤ n := Nat.le_of_succ_le_succ hn
    have hN := Nat.le_trans (Nat.le_of_succ_le hF) hN
    replace h := qa_iload (n := 4) (q := 28) (qa_d rfl h) rfl g4
    replace h := qa_aload (n := 0) (q := 29) (qa_e rfl h) rfl g0
    replace h := qa_gr (b := 4) (j := 0) (q := 32) (qa_e rfl h) rfl hM rfl (by decide)
    replace h := qa_gi (j := 0) (q := 35) (qa_e rfl h) rfl hM es rfl (by decide)
    by_cases c1 : s.1 < (s.2.2.2 4 0)
    · replace h := qa_iff (q := 38) (qa_e rfl h) rfl (qa_F_ge c1)
      replace h := qa_aload (n := 0) (q := 39) (qa_e rfl h) rfl g0
      replace h := qa_gr (b := 4) (j := 0) (q := 42) (qa_e rfl h) rfl hM rfl (by decide)
      replace h := qa_gr (b := 7) (j := 4) (q := 45) (qa_e rfl h) rfl hM rfl (by decide)
      replace h := qa_iload (n := 4) (q := 47) (qa_e rfl h) rfl g4
      replace h := qa_iaload (jn := s.1.toNatClampNeg) (q := 48) (qa_e rfl h) rfl hM es rfl
      obtain ⟨lv, h, g, T⟩ := qa_istore (n := 5) (q := 50) (qa_e rfl h) rfl
      replace g0 := T _ _ g0 (by decide) (Or.inr rfl)
      replace g1 := T _ _ g1 (by decide) (Or.inr rfl)
      replace g2 := T _ _ g2 (by decide) (Or.inr rfl)
      replace g3 := T _ _ g3 (by decide) (Or.inr rfl)
      replace g4 := T _ _ g4 (by decide) (Or.inr rfl)
      have g5 := g
      clear g T
      replace h := qa_iload (n := 5) (q := 52) (qa_e rfl h) rfl g5
      replace h := qa_push (z := (1 : Int32)) (q := 53) (qa_e rfl h) rfl (by decide)
      replace h := qa_isub (q := 54) (qa_e rfl h) rfl
      obtain ⟨lv, h, g, T⟩ := qa_istore (n := 6) (q := 56) (qa_e rfl h) rfl
      replace g0 := T _ _ g0 (by decide) (Or.inr rfl)
      replace g1 := T _ _ g1 (by decide) (Or.inr rfl)
      replace g2 := T _ _ g2 (by decide) (Or.inr rfl)
      replace g3 := T _ _ g3 (by decide) (Or.inr rfl)
      replace g4 := T _ _ g4 (by decide) (Or.inr rfl)
      replace g5 := T _ _ g5 (by decide) (Or.inr rfl)
      have g6 := g
      clear g T
      obtain ⟨r2, er2⟩ : ∃ x, x = (qa_wh (fun s => s) (mc_123_3_p56 N l1 s.1 (s.2.2.2 7 s.1.toNatClampNeg)) N (((s.2.2.2 7 s.1.toNatClampNeg) - (1 : Int32)), s.2.1, s.2.2.1, s.2.2.2)) := ⟨_, rfl⟩
      have L := md_123_3_p56 (l1 := l1) (l4 := s.1) (l5 := (s.2.2.2 7 s.1.toNatClampNeg)) (F := f) (N := N) (r := r) hN f N hN (Nat.le_refl f) (((s.2.2.2 7 s.1.toNatClampNeg) - (1 : Int32)), s.2.1, s.2.2.1, s.2.2.2) _ _ hM es g0 g1 g2 g3 g4 g5 g6 h
      rw [← er2] at L
      obtain ⟨lv, M, h, hM, es, g0, g1, g2, g3, g4⟩ := L
      obtain ⟨lv, h, g, T⟩ := qa_iinc (n := 4) (z := (1 : Int32)) (q := 135) (qa_e rfl h) rfl (by decide) g4
      replace g0 := T _ _ g0 (by decide) (Or.inr rfl)
      replace g1 := T _ _ g1 (by decide) (Or.inr rfl)
      replace g2 := T _ _ g2 (by decide) (Or.inr rfl)
      replace g3 := T _ _ g3 (by decide) (Or.inr rfl)
      replace g4 := g
      clear g T
      replace h := qa_goto (q := 26) (qa_e rfl h) rfl
      have e0 : mc_123_3_p26 N l1 s = .inl ((s.1 + (1 : Int32)), r2.2.1, r2.2.2.1, r2.2.2.2) := by exact Eq.trans (if_pos c1) (Eq.trans (qa_ie er2) (rfl))
      rw [qa_whl e0]
      exact ih n hn (Nat.le_of_succ_le hF) ((s.1 + (1 : Int32)), r2.2.1, r2.2.2.1, r2.2.2.2) _ _ hM es g0 g1 g2 g3 g4 h
    · replace h := qa_ift (q := 138) (qa_e rfl h) rfl (qa_T_ge c1)
      have e0 : mc_123_3_p26 N l1 s = .inr (s.1, s.2.1, s.2.2.1, s.2.2.2) := by exact Eq.trans (if_neg c1) (rfl)
      rw [qa_whr e0]
      exact ⟨_, _, q61_mono f F _ _ _ _ _ _ _ _ (Nat.le_of_succ_le hF) h, hM, es, g1, g2, g3⟩
