/-- BuriedBySevensModel, areApart, (III)Z -/
noncomputable def ma_191_99 (N : Nat) (a1 : Int32) (a2 : Int32) (a3 : Int32) (σ : qa_S) : Int32 :=
  qa_in ((qa_wh (fun s => s) (mc_191_99_p6 N a1 a2 a3 σ) N ((0 : Int32), (0 : Int32)))) fun r1 =>
  r1.2
theorem mb_191_99 {f N : Nat} (hN : f ≤ N) {M : q4_M} {r : Option Value × q4_M} {σ : qa_S} {a1 : Int32} {a2 : Int32} {a3 : Int32} (hM : qa_O M) (es : qa_s M = σ) (h : q4_run f 191 0 (lv_args 0 [.ref 99, .int (a1), .int (a2), .int (a3)]) [] M 0 0 = some r) : r.1 = some (.int ((ma_191_99 N a1 a2 a3 σ))) ∧ qa_O r.2 ∧ qa_s r.2 = σ := by
  obtain ⟨lv, el⟩ : ∃ l, l = lv_args 0 [.ref 99, .int (a1), .int (a2), .int (a3)] := ⟨_, rfl⟩
  have g0 : q4_get lv 0 = some (.ref 99) := by rw [el]; rfl
  have g1 : q4_get lv 1 = some (.int (a1)) := by rw [el]; rfl
  have g2 : q4_get lv 2 = some (.int (a2)) := by rw [el]; rfl
  have g3 : q4_get lv 3 = some (.int (a3)) := by rw [el]; rfl
  rw [← el] at h
  clear el
  replace h := qa_push (z := (0 : Int32)) (q := 1) (qa_e rfl h) rfl (by decide)
  obtain ⟨lv, h, g, T⟩ := qa_istore (n := 4) (q := 3) (qa_e rfl h) rfl
  replace g0 := T _ _ g0 (by decide) (Or.inr rfl)
  replace g1 := T _ _ g1 (by decide) (Or.inr rfl)
  replace g2 := T _ _ g2 (by decide) (Or.inr rfl)
  replace g3 := T _ _ g3 (by decide) (Or.inr rfl)
  have g4 := g
  clear g T
  replace h := qa_push (z := (0 : Int32)) (q := 4) (qa_e rfl h) rfl (by decide)
  obtain ⟨lv, h, g, T⟩ := qa_istore (n := 5) (q := 6) (qa_e rfl h) rfl
  replace g0 := T _ _ g0 (by decide) (Or.inr rfl)
  replace g1 := T _ _ g1 (by decide) (Or.inr rfl)
  replace g2 := T _ _ g2 (by decide) (Or.inr rfl)
  replace g3 := T _ _ g3 (by decide) (Or.inr rfl)
  replace g4 := T _ _ g4 (by decide) (Or.inr rfl)
  have g5 := g
  clear g T
  obtain ⟨r1, er1⟩ : ∃ x, x = (qa_wh (fun s => s) (mc_191_99_p6 N a1 a2 a3 σ) N ((0 : Int32), (0 : Int32))) := ⟨_, rfl⟩
  have L := md_191_99_p6 (l1 := a1) (l2 := a2) (l3 := a3) (σ := σ) (F := f) (N := N) (r := r) hN f N hN (Nat.le_refl f) ((0 : Int32), (0 : Int32)) _ _ hM es g0 g1 g2 g3 g4 g5 h
  rw [← er1] at L
  obtain ⟨lv, M, h, hM, es, g4⟩ := L
  replace h := qa_iload (n := 4) (q := 55) (qa_e rfl h) rfl g4
  have er := qa_ri (qa_e rfl h)
  subst er
  have e0 : ma_191_99 N a1 a2 a3 σ = r1.2 := by exact Eq.trans (qa_ie er1) (rfl)
  rw [e0]
  exact ⟨rfl, hM, es⟩
noncomputable def mc_189_99_p49 (N : Nat) (l1 : Int32) (l4 : Int32) (σ : qa_S) (s : Int32 × Int32 × Int32) : (Int32 × Int32 × Int32) ⊕ (Int32 × Int32 × Int32) :=
  if s.1 < (σ 99 0) then
    qa_in ((ma_191_99 N (ma_190_99 σ) l4 s.1 σ)) fun r2 =>
    .inl ((s.1 + (1 : Int32)), (s.2.1 + (if (if r2 = (0 : Int32) then (1 : Int32) else (0 : Int32)) = (0 : Int32) then (0 : Int32) else (1 : Int32))), (if (if r2 = (0 : Int32) then (1 : Int32) else (0 : Int32)) = (0 : Int32) then s.2.2 else (if s.2.2 < (0 : Int32) then (((10 : Int32) * l4) + s.1) else s.2.2)))
  else
    .inr (s.1, s.2.1, s.2.2)
theorem md_189_99_p49 {N F : Nat} {r : Option Value × q4_M} {l1 : Int32} {l4 : Int32} {σ : qa_S} (hN : F ≤ N) : ∀ f n, f ≤ n → f ≤ F → ∀ (s : Int32 × Int32 × Int32) (lv : List (Nat × Value)) (M : q4_M), qa_O M → qa_s M = σ → q4_get lv 0 = some (.ref 99) → q4_get lv 1 = some (.int (l1)) → q4_get lv 2 = some (.int (s.2.1)) → q4_get lv 3 = some (.int (s.2.2)) → q4_get lv 4 = some (.int (l4)) → q4_get lv 5 = some (.int (s.1)) → q4_run f 189 49 lv [] M 0 0 = some r → ∃ lv M, q4_run F 189 121 lv [] M 0 0 = some r ∧ qa_O M ∧ qa_s M = σ ∧ q4_get lv 0 = some (.ref 99) ∧ q4_get lv 1 = some (.int (l1)) ∧ q4_get lv 2 = some (.int ((qa_wh (fun s => s) (mc_189_99_p49 N l1 l4 σ) n s).2.1)) ∧ q4_get lv 3 = some (.int ((qa_wh (fun s => s) (mc_189_99_p49 N l1 l4 σ) n s).2.2)) ∧ q4_get lv 4 = some (.int (l4)) := by
  intro f
  induction f with
  | zero => intro n _ _ s lv M hM es _ _ _ _ _ _ h; cases h
  | succ f ih =>
    intro n hn hF s lv M hM es g0 g1 g2 g3 g4 g5 h
    obtain ⟨n, rfl⟩ : ∃ n1, n = n1 + 1 := ⟨n - 1, by omega⟩
    replace hn : f ≤ n := Nat.le_of_succ_le_succ hn
    have hN := Nat.le_trans (Nat.le_of_succ_le hF) hN
    replace h := qa_iload (n := 5) (q := 51) (qa_d rfl h) rfl g5
    replace h := qa_aload (n := 0) (q := 52) (qa_e rfl h) rfl g0
    replace h := qa_gi (j := 0) (q := 55) (qa_e rfl h) rfl hM es rfl (by decide)
    by_cases c1 : s.1 < (σ 99 0)
    · replace h := qa_iff (q := 58) (qa_e rfl h) rfl (qa_F_ge c1)
      replace h := qa_aload (n := 0) (q := 59) (qa_e rfl h) rfl g0
      replace h := qa_aload (n := 0) (q := 60) (qa_e rfl h) rfl g0
      obtain ⟨M, h, hM, es⟩ := qa_c1 (y := 190) (as := [.ref 99]) (rest := [.ref 99]) (i := .invokevirtual 190) (q := 63) (qa_e rfl h) (Or.inl rfl) rfl rfl (by decide) rfl (fun r hc => mb_190_99 hM es hc)
      replace h := qa_iload (n := 4) (q := 65) (qa_e rfl h) rfl g4
      replace h := qa_iload (n := 5) (q := 67) (qa_e rfl h) rfl g5
      obtain ⟨r2, er2⟩ : ∃ x, x = (ma_191_99 N (ma_190_99 σ) l4 s.1 σ) := ⟨_, rfl⟩
      obtain ⟨M, h, hM, es⟩ := qa_c1 (y := 191) (as := [.ref 99, .int ((ma_190_99 σ)), .int (l4), .int (s.1)]) (rest := []) (i := .invokevirtual 191) (q := 70) (qa_e rfl h) (Or.inl rfl) rfl rfl (by decide) rfl (fun r hc => mb_191_99 hN hM es hc)
      rw [← er2] at h
      obtain ⟨lv, M, h, hM, es, g0, g1, g2, g3, g4, g5⟩ : ∃ lv M, q4_run f 189 78 lv [.int ((if r2 = (0 : Int32) then (1 : Int32) else (0 : Int32)))] M 0 0 = some r ∧ qa_O M ∧ qa_s M = σ ∧ q4_get lv 0 = some (.ref 99) ∧ q4_get lv 1 = some (.int (l1)) ∧ q4_get lv 2 = some (.int (s.2.1)) ∧ q4_get lv 3 = some (.int (s.2.2)) ∧ q4_get lv 4 = some (.int (l4)) ∧ q4_get lv 5 = some (.int (s.1)) := by
        by_cases c3 : r2 = (0 : Int32)
        · replace h := qa_icf (q := 73) (qa_e rfl h) rfl (qa_F_ne c3)
          replace h := qa_push (z := (1 : Int32)) (q := 74) (qa_e rfl h) rfl (by decide)
          replace h := qa_goto (q := 78) (qa_e rfl h) rfl
          exact ⟨lv, M, (qa_hi1 c3 h), hM, es, g0, g1, g2, g3, g4, g5⟩
        · replace h := qa_ict (q := 77) (qa_e rfl h) rfl (qa_T_ne c3)
          replace h := qa_push (z := (0 : Int32)) (q := 78) (qa_e rfl h) rfl (by decide)
          exact ⟨lv, M, (qa_hi0 c3 h), hM, es, g0, g1, g2, g3, g4, g5⟩
      obtain ⟨lv, h, g, T⟩ := qa_istore (n := 6) (q := 80) (qa_e rfl h) rfl
      replace g0 := T _ _ g0 (by decide) (Or.inr rfl)
      replace g1 := T _ _ g1 (by decide) (Or.inr rfl)
      replace g2 := T _ _ g2 (by decide) (Or.inr rfl)
      replace g3 := T _ _ g3 (by decide) (Or.inr rfl)
      replace g4 := T _ _ g4 (by decide) (Or.inr rfl)
      replace g5 := T _ _ g5 (by decide) (Or.inr rfl)
      have g6 := g
      clear g T
      replace h := qa_iload (n := 2) (q := 81) (qa_e rfl h) rfl g2
      replace h := qa_iload (n := 6) (q := 83) (qa_e rfl h) rfl g6
      obtain ⟨lv, M, h, hM, es, g0, g1, g3, g4, g5, g6⟩ : ∃ lv M, q4_run f 189 91 lv [.int ((if (if r2 = (0 : Int32) then (1 : Int32) else (0 : Int32)) = (0 : Int32) then (0 : Int32) else (1 : Int32))), .int (s.2.1)] M 0 0 = some r ∧ qa_O M ∧ qa_s M = σ ∧ q4_get lv 0 = some (.ref 99) ∧ q4_get lv 1 = some (.int (l1)) ∧ q4_get lv 3 = some (.int (s.2.2)) ∧ q4_get lv 4 = some (.int (l4)) ∧ q4_get lv 5 = some (.int (s.1)) ∧ q4_get lv 6 = some (.int ((if r2 = (0 : Int32) then (1 : Int32) else (0 : Int32)))) := by
        by_cases c4 : (if r2 = (0 : Int32) then (1 : Int32) else (0 : Int32)) = (0 : Int32)
        · replace h := qa_ict (q := 90) (qa_e rfl h) rfl (qa_T_eq c4)
          replace h := qa_push (z := (0 : Int32)) (q := 91) (qa_e rfl h) rfl (by decide)
          exact ⟨lv, M, (qa_hi1 c4 h), hM, es, g0, g1, g3, g4, g5, g6⟩
        · replace h := qa_icf (q := 86) (qa_e rfl h) rfl (qa_F_eq c4)
          replace h := qa_push (z := (1 : Int32)) (q := 87) (qa_e rfl h) rfl (by decide)
          replace h := qa_goto (q := 91) (qa_e rfl h) rfl
          exact ⟨lv, M, (qa_hi0 c4 h), hM, es, g0, g1, g3, g4, g5, g6⟩
      replace h := qa_iadd (q := 92) (qa_e rfl h) rfl
      obtain ⟨lv, h, g, T⟩ := qa_istore (n := 2) (q := 93) (qa_e rfl h) rfl
      replace g0 := T _ _ g0 (by decide) (Or.inr rfl)
      replace g1 := T _ _ g1 (by decide) (Or.inr rfl)
      replace g3 := T _ _ g3 (by decide) (Or.inr rfl)
      replace g4 := T _ _ g4 (by decide) (Or.inr rfl)
      replace g5 := T _ _ g5 (by decide) (Or.inr rfl)
      replace g6 := T _ _ g6 (by decide) (Or.inr rfl)
      have g2 := g
      clear g T
      replace h := qa_iload (n := 6) (q := 95) (qa_e rfl h) rfl g6
      obtain ⟨lv, M, h, hM, es, g0, g1, g2, g4, g5⟩ : ∃ lv M, q4_run f 189 114 lv [.int ((if (if r2 = (0 : Int32) then (1 : Int32) else (0 : Int32)) = (0 : Int32) then s.2.2 else (if s.2.2 < (0 : Int32) then (((10 : Int32) * l4) + s.1) else s.2.2)))] M 0 0 = some r ∧ qa_O M ∧ qa_s M = σ ∧ q4_get lv 0 = some (.ref 99) ∧ q4_get lv 1 = some (.int (l1)) ∧ q4_get lv 2 = some (.int ((s.2.1 + (if (if r2 = (0 : Int32) then (1 : Int32) else (0 : Int32)) = (0 : Int32) then (0 : Int32) else (1 : Int32))))) ∧ q4_get lv 4 = some (.int (l4)) ∧ q4_get lv 5 = some (.int (s.1)) := by
        by_cases c5 : (if r2 = (0 : Int32) then (1 : Int32) else (0 : Int32)) = (0 : Int32)
        · replace h := qa_ict (q := 113) (qa_e rfl h) rfl (qa_T_eq c5)
          replace h := qa_iload (n := 3) (q := 114) (qa_e rfl h) rfl g3
          exact ⟨lv, M, (qa_hi1 c5 h), hM, es, g0, g1, g2, g4, g5⟩
        · replace h := qa_icf (q := 98) (qa_e rfl h) rfl (qa_F_eq c5)
          replace h := qa_iload (n := 3) (q := 99) (qa_e rfl h) rfl g3
          obtain ⟨lv, M, h, hM, es, g0, g1, g2, g4, g5⟩ : ∃ lv M, q4_run f 189 114 lv [.int ((if s.2.2 < (0 : Int32) then (((10 : Int32) * l4) + s.1) else s.2.2))] M 0 0 = some r ∧ qa_O M ∧ qa_s M = σ ∧ q4_get lv 0 = some (.ref 99) ∧ q4_get lv 1 = some (.int (l1)) ∧ q4_get lv 2 = some (.int ((s.2.1 + (if (if r2 = (0 : Int32) then (1 : Int32) else (0 : Int32)) = (0 : Int32) then (0 : Int32) else (1 : Int32))))) ∧ q4_get lv 4 = some (.int (l4)) ∧ q4_get lv 5 = some (.int (s.1)) := by
            by_cases c6 : s.2.2 < (0 : Int32)
            · replace h := qa_icf (q := 102) (qa_e rfl h) rfl (qa_F_ge c6)
              replace h := qa_push (z := (10 : Int32)) (q := 104) (qa_e rfl h) rfl (by decide)
              replace h := qa_iload (n := 4) (q := 106) (qa_e rfl h) rfl g4
              replace h := qa_imul (q := 107) (qa_e rfl h) rfl
              replace h := qa_iload (n := 5) (q := 109) (qa_e rfl h) rfl g5
              replace h := qa_iadd (q := 110) (qa_e rfl h) rfl
              replace h := qa_goto (q := 114) (qa_e rfl h) rfl
              exact ⟨lv, M, (qa_hi1 c6 h), hM, es, g0, g1, g2, g4, g5⟩
            · replace h := qa_ict (q := 113) (qa_e rfl h) rfl (qa_T_ge c6)
              replace h := qa_iload (n := 3) (q := 114) (qa_e rfl h) rfl g3
              exact ⟨lv, M, (qa_hi0 c6 h), hM, es, g0, g1, g2, g4, g5⟩
          exact ⟨lv, M, (qa_hi0 c5 h), hM, es, g0, g1, g2, g4, g5⟩
      obtain ⟨lv, h, g, T⟩ := qa_istore (n := 3) (q := 115) (qa_e rfl h) rfl
      replace g0 := T _ _ g0 (by decide) (Or.inr rfl)
      replace g1 := T _ _ g1 (by decide) (Or.inr rfl)
      replace g2 := T _ _ g2 (by decide) (Or.inr rfl)
      replace g4 := T _ _ g4 (by decide) (Or.inr rfl)
      replace g5 := T _ _ g5 (by decide) (Or.inr rfl)
      have g3 := g
      clear g T
      obtain ⟨lv, h, g, T⟩ := qa_iinc (n := 5) (z := (1 : Int32)) (q := 118) (qa_e rfl h) rfl (by decide) g5
      replace g0 := T _ _ g0 (by decide) (Or.inr rfl)
      replace g1 := T _ _ g1 (by decide) (Or.inr rfl)
      replace g2 := T _ _ g2 (by decide) (Or.inr rfl)
      replace g3 := T _ _ g3 (by decide) (Or.inr rfl)
      replace g4 := T _ _ g4 (by decide) (Or.inr rfl)
      replace g5 := g
      clear g T
      replace h := qa_goto (q := 49) (qa_e rfl h) rfl
      have e0 : mc_189_99_p49 N l1 l4 σ s = .inl ((s.1 + (1 : Int32)), (s.2.1 + (if (if r2 = (0 : Int32) then (1 : Int32) else (0 : Int32)) = (0 : Int32) then (0 : Int32) else (1 : Int32))), (if (if r2 = (0 : Int32) then (1 : Int32) else (0 : Int32)) = (0 : Int32) then s.2.2 else (if s.2.2 < (0 : Int32) then (((10 : Int32) * l4) + s.1) else s.2.2))) := by exact Eq.trans (if_pos c1) (Eq.trans (qa_ie er2) (rfl))
      rw [qa_whl e0]
      exact ih n hn (Nat.le_of_succ_le hF) ((s.1 + (1 : Int32)), (s.2.1 + (if (if r2 = (0 : Int32) then (1 : Int32) else (0 : Int32)) = (0 : Int32) then (0 : Int32) else (1 : Int32))), (if (if r2 = (0 : Int32) then (1 : Int32) else (0 : Int32)) = (0 : Int32) then s.2.2 else (if s.2.2 < (0 : Int32) then (((10 : Int32) * l4) + s.1) else s.2.2))) _ _ hM es g0 g1 g2 g3 g4 g5 h
    · replace h := qa_ift (q := 121) (qa_e rfl h) rfl (qa_T_ge c1)
      have e0 : mc_189_99_p49 N l1 l4 σ s = .inr (s.1, s.2.1, s.2.2) := by exact Eq.trans (if_neg c1) (rfl)
      rw [qa_whr e0]
      exact ⟨_, _, q61_mono f F _ _ _ _ _ _ _ _ (Nat.le_of_succ_le hF) h, hM, es, g0, g1, g2, g3, g4⟩
noncomputable def mc_189_99_p34 (N : Nat) (l1 : Int32) (σ : qa_S) (s : Int32 × Int32 × Int32) : (Int32 × Int32 × Int32) ⊕ (Int32 × Int32 × Int32) :=
  if s.1 < (σ 99 0) then
    qa_in ((qa_wh (fun s => s) (mc_189_99_p49 N l1 s.1 σ) N ((s.1 + (1 : Int32)), s.2.1, s.2.2))) fun r2 =>
    .inl ((s.1 + (1 : Int32)), r2.2.1, r2.2.2)
  else
    .inr (s.1, s.2.1, s.2.2)
theorem md_189_99_p34 {N F : Nat} {r : Option Value × q4_M} {l1 : Int32} {σ : qa_S} (hN : F ≤ N) : ∀ f n, f ≤ n → f ≤ F → ∀ (s : Int32 × Int32 × Int32) (lv : List (Nat × Value)) (M : q4_M), qa_O M → qa_s M = σ → q4_get lv 0 = some (.ref 99) → q4_get lv 1 = some (.int (l1)) → q4_get lv 2 = some (.int (s.2.1)) → q4_get lv 3 = some (.int (s.2.2)) → q4_get lv 4 = some (.int (s.1)) → q4_run f 189 34 lv [] M 0 0 = some r → ∃ lv M, q4_run F 189 127 lv [] M 0 0 = some r ∧ qa_O M ∧ qa_s M = σ ∧ q4_get lv 1 = some (.int (l1)) ∧ q4_get lv 2 = some (.int ((qa_wh (fun s => s) (mc_189_99_p34 N l1 σ) n s).2.1)) ∧ q4_get lv 3 = some (.int ((qa_wh (fun s => s) (mc_189_99_p34 N l1 σ) n s).2.2)) := by
  intro f
  induction f with
  | zero => intro n _ _ s lv M hM es _ _ _ _ _ h; cases h
  | succ f ih =>
    intro n hn hF s lv M hM es g0 g1 g2 g3 g4 h
    obtain ⟨n, rfl⟩ : ∃ n1, n = n1 + 1 := ⟨n - 1, by omega⟩
    replace hn : f ≤ n := Nat.le_of_succ_le_succ hn
    have hN := Nat.le_trans (Nat.le_of_succ_le hF) hN
    replace h := qa_iload (n := 4) (q := 36) (qa_d rfl h) rfl g4
    replace h := qa_aload (n := 0) (q := 37) (qa_e rfl h) rfl g0
    replace h := qa_gi (j := 0) (q := 40) (qa_e rfl h) rfl hM es rfl (by decide)
    by_cases c1 : s.1 < (σ 99 0)
    · replace h := qa_iff (q := 43) (qa_e rfl h) rfl (qa_F_ge c1)
      replace h := qa_iload (n := 4) (q := 45) (qa_e rfl h) rfl g4
      replace h := qa_push (z := (1 : Int32)) (q := 46) (qa_e rfl h) rfl (by decide)
      replace h := qa_iadd (q := 47) (qa_e rfl h) rfl
      obtain ⟨lv, h, g, T⟩ := qa_istore (n := 5) (q := 49) (qa_e rfl h) rfl
      replace g0 := T _ _ g0 (by decide) (Or.inr rfl)
      replace g1 := T _ _ g1 (by decide) (Or.inr rfl)
      replace g2 := T _ _ g2 (by decide) (Or.inr rfl)
      replace g3 := T _ _ g3 (by decide) (Or.inr rfl)
      replace g4 := T _ _ g4 (by decide) (Or.inr rfl)
      have g5 := g
      clear g T
      obtain ⟨r2, er2⟩ : ∃ x, x = (qa_wh (fun s => s) (mc_189_99_p49 N l1 s.1 σ) N ((s.1 + (1 : Int32)), s.2.1, s.2.2)) := ⟨_, rfl⟩
      have L := md_189_99_p49 (l1 := l1) (l4 := s.1) (σ := σ) (F := f) (N := N) (r := r) hN f N hN (Nat.le_refl f) ((s.1 + (1 : Int32)), s.2.1, s.2.2) _ _ hM es g0 g1 g2 g3 g4 g5 h
      rw [← er2] at L
      obtain ⟨lv, M, h, hM, es, g0, g1, g2, g3, g4⟩ := L
      obtain ⟨lv, h, g, T⟩ := qa_iinc (n := 4) (z := (1 : Int32)) (q := 124) (qa_e rfl h) rfl (by decide) g4
      replace g0 := T _ _ g0 (by decide) (Or.inr rfl)
      replace g1 := T _ _ g1 (by decide) (Or.inr rfl)
      replace g2 := T _ _ g2 (by decide) (Or.inr rfl)
      replace g3 := T _ _ g3 (by decide) (Or.inr rfl)
      replace g4 := g
      clear g T
      replace h := qa_goto (q := 34) (qa_e rfl h) rfl
      have e0 : mc_189_99_p34 N l1 σ s = .inl ((s.1 + (1 : Int32)), r2.2.1, r2.2.2) := by exact Eq.trans (if_pos c1) (Eq.trans (qa_ie er2) (rfl))
      rw [qa_whl e0]
      exact ih n hn (Nat.le_of_succ_le hF) ((s.1 + (1 : Int32)), r2.2.1, r2.2.2) _ _ hM es g0 g1 g2 g3 g4 h
    · replace h := qa_ift (q := 127) (qa_e rfl h) rfl (qa_T_ge c1)
      have e0 : mc_189_99_p34 N l1 σ s = .inr (s.1, s.2.1, s.2.2) := by exact Eq.trans (if_neg c1) (rfl)
      rw [qa_whr e0]
      exact ⟨_, _, q61_mono f F _ _ _ _ _ _ _ _ (Nat.le_of_succ_le hF) h, hM, es, g1, g2, g3⟩
/-- BuriedBySevensModel, alike, (I)I -/
noncomputable def ma_189_99 (N : Nat) (a1 : Int32) (σ : qa_S) : Int32 × qa_S :=
  qa_in (qa_u σ 99 9 (0 : Int32)) fun m1 =>
  if (ma_158 (a1).toInt64 (0 : Int64) (1 : Int64)) = (0 : Int32) then
    qa_in ((ma_152_99 (-2 : Int32) m1)) fun r3 =>
    (r3.1, r3.2)
  else
    qa_in ((ma_181_99 N m1)) fun m4 =>
    qa_in ((qa_wh (fun s => s) (mc_189_99_p34 N a1 m4) N ((0 : Int32), (0 : Int32), (-9 : Int32)))) fun r5 =>
    ((if a1 = (0 : Int32) then r5.2.1 else r5.2.2), m4)
theorem mb_189_99 {f N : Nat} (hN : f ≤ N) {M : q4_M} {r : Option Value × q4_M} {σ : qa_S} {a1 : Int32} (hM : qa_O M) (es : qa_s M = σ) (h : q4_run f 189 0 (lv_args 0 [.ref 99, .int (a1)]) [] M 0 0 = some r) : r.1 = some (.int ((ma_189_99 N a1 σ).1)) ∧ qa_O r.2 ∧ qa_s r.2 = (ma_189_99 N a1 σ).2 := by
  obtain ⟨lv, el⟩ : ∃ l, l = lv_args 0 [.ref 99, .int (a1)] := ⟨_, rfl⟩
  have g0 : q4_get lv 0 = some (.ref 99) := by rw [el]; rfl
  have g1 : q4_get lv 1 = some (.int (a1)) := by rw [el]; rfl
  rw [← el] at h
  clear el
  replace h := qa_aload (n := 0) (q := 1) (qa_e rfl h) rfl g0
  replace h := qa_push (z := (0 : Int32)) (q := 2) (qa_e rfl h) rfl (by decide)
  obtain ⟨m1, em1⟩ : ∃ x, x = qa_u σ 99 9 (0 : Int32) := ⟨_, rfl⟩
  obtain ⟨M, h, hM, es⟩ := qa_pf (j := 9) (q := 5) (qa_e rfl h) rfl hM es rfl (by decide)
  rw [← em1] at es
  replace h := qa_iload (n := 1) (q := 6) (qa_e rfl h) rfl g1
  replace h := qa_i2l (q := 7) (qa_e rfl h) rfl
  replace h := qa_lpush (z := (0 : Int64)) (q := 8) (qa_e rfl h) rfl (by decide)
  replace h := qa_lpush (z := (1 : Int64)) (q := 9) (qa_e rfl h) rfl (by decide)
  obtain ⟨M, h, hM, es⟩ := qa_c1 (y := 158) (as := [.long ((a1).toInt64), .long ((0 : Int64)), .long ((1 : Int64))]) (rest := []) (i := .invokestatic 158) (q := 12) (qa_e rfl h) (Or.inr rfl) rfl rfl (by decide) rfl (fun r hc => mb_158 hM es hc)
  by_cases c2 : (ma_158 (a1).toInt64 (0 : Int64) (1 : Int64)) = (0 : Int32)
  · replace h := qa_icf (q := 15) (qa_e rfl h) rfl (qa_F_ne c2)
    replace h := qa_aload (n := 0) (q := 16) (qa_e rfl h) rfl g0
    replace h := qa_push (z := (-2 : Int32)) (q := 18) (qa_e rfl h) rfl (by decide)
    obtain ⟨r3, er3⟩ : ∃ x, x = (ma_152_99 (-2 : Int32) m1) := ⟨_, rfl⟩
    obtain ⟨M, h, hM, es⟩ := qa_c1 (y := 152) (as := [.ref 99, .int ((-2 : Int32))]) (rest := []) (i := .invokevirtual 152) (q := 21) (qa_e rfl h) (Or.inl rfl) rfl rfl (by decide) rfl (fun r hc => mb_152_99 hM es hc)
    rw [← er3] at h es
    have er := qa_ri (qa_e rfl h)
    subst er
    have e0 : ma_189_99 N a1 σ = (r3.1, r3.2) := by exact Eq.trans (qa_ie em1) (Eq.trans (if_pos c2) (Eq.trans (qa_ie er3) (rfl)))
    rw [e0]
    exact ⟨rfl, hM, es⟩
  · replace h := qa_ict (q := 22) (qa_e rfl h) rfl (qa_T_ne c2)
    replace h := qa_aload (n := 0) (q := 23) (qa_e rfl h) rfl g0
    obtain ⟨m4, em4⟩ : ∃ x, x = (ma_181_99 N m1) := ⟨_, rfl⟩
    obtain ⟨M, h, hM, es⟩ := qa_c0 (y := 181) (as := [.ref 99]) (rest := []) (i := .invokevirtual 181) (q := 26) (qa_e rfl h) (Or.inl rfl) rfl rfl (by decide) rfl (fun r hc => mb_181_99 hN hM es hc)
    rw [← em4] at es
    replace h := qa_push (z := (0 : Int32)) (q := 27) (qa_e rfl h) rfl (by decide)
    obtain ⟨lv, h, g, T⟩ := qa_istore (n := 2) (q := 28) (qa_e rfl h) rfl
    replace g0 := T _ _ g0 (by decide) (Or.inr rfl)
    replace g1 := T _ _ g1 (by decide) (Or.inr rfl)
    have g2 := g
    clear g T
    replace h := qa_push (z := (-9 : Int32)) (q := 30) (qa_e rfl h) rfl (by decide)
    obtain ⟨lv, h, g, T⟩ := qa_istore (n := 3) (q := 31) (qa_e rfl h) rfl
    replace g0 := T _ _ g0 (by decide) (Or.inr rfl)
    replace g1 := T _ _ g1 (by decide) (Or.inr rfl)
    replace g2 := T _ _ g2 (by decide) (Or.inr rfl)
    have g3 := g
    clear g T
    replace h := qa_push (z := (0 : Int32)) (q := 32) (qa_e rfl h) rfl (by decide)
    obtain ⟨lv, h, g, T⟩ := qa_istore (n := 4) (q := 34) (qa_e rfl h) rfl
    replace g0 := T _ _ g0 (by decide) (Or.inr rfl)
    replace g1 := T _ _ g1 (by decide) (Or.inr rfl)
    replace g2 := T _ _ g2 (by decide) (Or.inr rfl)
    replace g3 := T _ _ g3 (by decide) (Or.inr rfl)
    have g4 := g
    clear g T
    obtain ⟨r5, er5⟩ : ∃ x, x = (qa_wh (fun s => s) (mc_189_99_p34 N a1 m4) N ((0 : Int32), (0 : Int32), (-9 : Int32))) := ⟨_, rfl⟩
    have L := md_189_99_p34 (l1 := a1) (σ := m4) (F := f) (N := N) (r := r) hN f N hN (Nat.le_refl f) ((0 : Int32), (0 : Int32), (-9 : Int32)) _ _ hM es g0 g1 g2 g3 g4 h
    rw [← er5] at L
    obtain ⟨lv, M, h, hM, es, g1, g2, g3⟩ := L
    replace h := qa_iload (n := 1) (q := 128) (qa_e rfl h) rfl g1
    obtain ⟨lv, M, h, hM, es⟩ : ∃ lv M, q4_run f 189 136 lv [.int ((if a1 = (0 : Int32) then r5.2.1 else r5.2.2))] M 0 0 = some r ∧ qa_O M ∧ qa_s M = m4 := by
      by_cases c6 : a1 = (0 : Int32)
      · replace h := qa_icf (q := 131) (qa_e rfl h) rfl (qa_F_ne c6)
        replace h := qa_iload (n := 2) (q := 132) (qa_e rfl h) rfl g2
        replace h := qa_goto (q := 136) (qa_e rfl h) rfl
        exact ⟨lv, M, (qa_hi1 c6 h), hM, es⟩
      · replace h := qa_ict (q := 135) (qa_e rfl h) rfl (qa_T_ne c6)
        replace h := qa_iload (n := 3) (q := 136) (qa_e rfl h) rfl g3
        exact ⟨lv, M, (qa_hi0 c6 h), hM, es⟩
    have er := qa_ri (qa_e rfl h)
    subst er
    have e0 : ma_189_99 N a1 σ = ((if a1 = (0 : Int32) then r5.2.1 else r5.2.2), m4) := by exact Eq.trans (qa_ie em1) (Eq.trans (if_neg c2) (Eq.trans (qa_ie em4) (Eq.trans (qa_ie er5) (rfl))))
    rw [e0]
    exact ⟨rfl, hM, es⟩
noncomputable def mc_195_99_p4 (N : Nat) (σ : qa_S) (s : Int32 × Int32) : (Int32 × Int32) ⊕ (Int32 × Int32) :=
  if s.1 < (σ 99 0) then
    .inl ((s.1 + (1 : Int32)), (s.2 * (3 : Int32)))
  else
    .inr (s.1, s.2)
theorem md_195_99_p4 {N F : Nat} {r : Option Value × q4_M} {σ : qa_S} (hN : F ≤ N) : ∀ f n, f ≤ n → f ≤ F → ∀ (s : Int32 × Int32) (lv : List (Nat × Value)) (M : q4_M), qa_O M → qa_s M = σ → q4_get lv 0 = some (.ref 99) → q4_get lv 1 = some (.int (s.2)) → q4_get lv 2 = some (.int (s.1)) → q4_run f 195 4 lv [] M 0 0 = some r → ∃ lv M, q4_run F 195 22 lv [] M 0 0 = some r ∧ qa_O M ∧ qa_s M = σ ∧ q4_get lv 1 = some (.int ((qa_wh (fun s => s) (mc_195_99_p4 N σ) n s).2)) := by
  intro f
  induction f with
  | zero => intro n _ _ s lv M hM es _ _ _ h; cases h
  | succ f ih =>
    intro n hn hF s lv M hM es g0 g1 g2 h
    obtain ⟨n, rfl⟩ : ∃ n1, n = n1 + 1 := ⟨n - 1, by omega⟩
    replace hn : f ≤ n := Nat.le_of_succ_le_succ hn
    have hN := Nat.le_trans (Nat.le_of_succ_le hF) hN
    replace h := qa_iload (n := 2) (q := 5) (qa_d rfl h) rfl g2
    replace h := qa_aload (n := 0) (q := 6) (qa_e rfl h) rfl g0
    replace h := qa_gi (j := 0) (q := 9) (qa_e rfl h) rfl hM es rfl (by decide)
    by_cases c1 : s.1 < (σ 99 0)
    · replace h := qa_iff (q := 12) (qa_e rfl h) rfl (qa_F_ge c1)
      replace h := qa_iload (n := 1) (q := 13) (qa_e rfl h) rfl g1
      replace h := qa_push (z := (3 : Int32)) (q := 14) (qa_e rfl h) rfl (by decide)
      replace h := qa_imul (q := 15) (qa_e rfl h) rfl
      obtain ⟨lv, h, g, T⟩ := qa_istore (n := 1) (q := 16) (qa_e rfl h) rfl
      replace g0 := T _ _ g0 (by decide) (Or.inr rfl)
      replace g2 := T _ _ g2 (by decide) (Or.inr rfl)
      have g1 := g
      clear g T
      obtain ⟨lv, h, g, T⟩ := qa_iinc (n := 2) (z := (1 : Int32)) (q := 19) (qa_e rfl h) rfl (by decide) g2
      replace g0 := T _ _ g0 (by decide) (Or.inr rfl)
      replace g1 := T _ _ g1 (by decide) (Or.inr rfl)
      replace g2 := g
      clear g T
      replace h := qa_goto (q := 4) (qa_e rfl h) rfl
      have e0 : mc_195_99_p4 N σ s = .inl ((s.1 + (1 : Int32)), (s.2 * (3 : Int32))) := by exact Eq.trans (if_pos c1) (rfl)
      rw [qa_whl e0]
      exact ih n hn (Nat.le_of_succ_le hF) ((s.1 + (1 : Int32)), (s.2 * (3 : Int32))) _ _ hM es g0 g1 g2 h
    · replace h := qa_ift (q := 22) (qa_e rfl h) rfl (qa_T_ge c1)
      have e0 : mc_195_99_p4 N σ s = .inr (s.1, s.2) := by exact Eq.trans (if_neg c1) (rfl)
      rw [qa_whr e0]
      exact ⟨_, _, q61_mono f F _ _ _ _ _ _ _ _ (Nat.le_of_succ_le hF) h, hM, es, g1⟩
/-- BuriedBySevensModel, codes, ()I -/
noncomputable def ma_195_99 (N : Nat) (σ : qa_S) : Int32 :=
  qa_in ((qa_wh (fun s => s) (mc_195_99_p4 N σ) N ((0 : Int32), (1 : Int32)))) fun r1 =>
  r1.2
theorem mb_195_99 {f N : Nat} (hN : f ≤ N) {M : q4_M} {r : Option Value × q4_M} {σ : qa_S} (hM : qa_O M) (es : qa_s M = σ) (h : q4_run f 195 0 (lv_args 0 [.ref 99]) [] M 0 0 = some r) : r.1 = some (.int ((ma_195_99 N σ))) ∧ qa_O r.2 ∧ qa_s r.2 = σ := by
  obtain ⟨lv, el⟩ : ∃ l, l = lv_args 0 [.ref 99] := ⟨_, rfl⟩
  have g0 : q4_get lv 0 = some (.ref 99) := by rw [el]; rfl
  rw [← el] at h
  clear el
  replace h := qa_push (z := (1 : Int32)) (q := 1) (qa_e rfl h) rfl (by decide)
  obtain ⟨lv, h, g, T⟩ := qa_istore (n := 1) (q := 2) (qa_e rfl h) rfl
  replace g0 := T _ _ g0 (by decide) (Or.inr rfl)
  have g1 := g
  clear g T
  replace h := qa_push (z := (0 : Int32)) (q := 3) (qa_e rfl h) rfl (by decide)
  obtain ⟨lv, h, g, T⟩ := qa_istore (n := 2) (q := 4) (qa_e rfl h) rfl
  replace g0 := T _ _ g0 (by decide) (Or.inr rfl)
  replace g1 := T _ _ g1 (by decide) (Or.inr rfl)
  have g2 := g
  clear g T
  obtain ⟨r1, er1⟩ : ∃ x, x = (qa_wh (fun s => s) (mc_195_99_p4 N σ) N ((0 : Int32), (1 : Int32))) := ⟨_, rfl⟩
  have L := md_195_99_p4 (σ := σ) (F := f) (N := N) (r := r) hN f N hN (Nat.le_refl f) ((0 : Int32), (1 : Int32)) _ _ hM es g0 g1 g2 h
  rw [← er1] at L
  obtain ⟨lv, M, h, hM, es, g1⟩ := L
  replace h := qa_iload (n := 1) (q := 23) (qa_e rfl h) rfl g1
  have er := qa_ri (qa_e rfl h)
  subst er
  have e0 : ma_195_99 N σ = r1.2 := by exact Eq.trans (qa_ie er1) (rfl)
  rw [e0]
  exact ⟨rfl, hM, es⟩
noncomputable def mc_196_99_p9 (N : Nat) (s : Int32 × Int32 × qa_S) : (Int32 × Int32 × qa_S) ⊕ (Int32 × Int32 × qa_S) :=
  if s.1 < (0 : Int32) then
    .inr (s.1, s.2.1, s.2.2)
  else
    qa_in (qa_u s.2.2 110 s.1.toNatClampNeg (s.2.1 - s.2.1 / (3 : Int32) * (3 : Int32))) fun m2 =>
    .inl ((s.1 + (-1 : Int32)), (s.2.1 / (3 : Int32)), m2)
theorem md_196_99_p9 {N F : Nat} {r : Option Value × q4_M} (hN : F ≤ N) : ∀ f n, f ≤ n → f ≤ F → ∀ (s : Int32 × Int32 × qa_S) (lv : List (Nat × Value)) (M : q4_M), qa_O M → qa_s M = s.2.2 → q4_get lv 0 = some (.ref 99) → q4_get lv 2 = some (.int (s.2.1)) → q4_get lv 3 = some (.int (s.1)) → q4_run f 196 9 lv [] M 0 0 = some r → ∃ lv M, q4_run F 196 32 lv [] M 0 0 = some r ∧ qa_O M ∧ qa_s M = (qa_wh (fun s => s) (mc_196_99_p9 N) n s).2.2 := by
  intro f
  induction f with
  | zero => intro n _ _ s lv M hM es _ _ _ h; cases h
  | succ f ih =>
    intro n hn hF s lv M hM es g0 g2 g3 h
    obtain ⟨n, rfl⟩ : ∃ n1, n = n1 + 1 := ⟨n - 1, by omega⟩
    replace hn : f ≤ n := Nat.le_of_succ_le_succ hn
    have hN := Nat.le_trans (Nat.le_of_succ_le hF) hN
    replace h := qa_iload (n := 3) (q := 10) (qa_d rfl h) rfl g3
    by_cases c1 : s.1 < (0 : Int32)
    · replace h := qa_ict (q := 32) (qa_e rfl h) rfl (qa_T_lt c1)
      have e0 : mc_196_99_p9 N s = .inr (s.1, s.2.1, s.2.2) := by exact Eq.trans (if_pos c1) (rfl)
      rw [qa_whr e0]
      exact ⟨_, _, q61_mono f F _ _ _ _ _ _ _ _ (Nat.le_of_succ_le hF) h, hM, es⟩
    · replace h := qa_icf (q := 13) (qa_e rfl h) rfl (qa_F_lt c1)
      replace h := qa_aload (n := 0) (q := 14) (qa_e rfl h) rfl g0
      replace h := qa_gr (b := 110) (j := 13) (q := 17) (qa_e rfl h) rfl hM rfl (by decide)
      replace h := qa_iload (n := 3) (q := 18) (qa_e rfl h) rfl g3
      replace h := qa_iload (n := 2) (q := 19) (qa_e rfl h) rfl g2
      replace h := qa_push (z := (3 : Int32)) (q := 20) (qa_e rfl h) rfl (by decide)
      replace h := qa_irem (q := 21) (qa_e rfl h) rfl
      obtain ⟨m2, em2⟩ : ∃ x, x = qa_u s.2.2 110 s.1.toNatClampNeg (s.2.1 - s.2.1 / (3 : Int32) * (3 : Int32)) := ⟨_, rfl⟩
      obtain ⟨M, h, hM, es⟩ := qa_iastore (jn := s.1.toNatClampNeg) (q := 22) (qa_e rfl h) rfl hM es rfl
      rw [← em2] at es
      replace h := qa_iload (n := 2) (q := 23) (qa_e rfl h) rfl g2
      replace h := qa_push (z := (3 : Int32)) (q := 24) (qa_e rfl h) rfl (by decide)
      replace h := qa_idiv (q := 25) (qa_e rfl h) rfl
      obtain ⟨lv, h, g, T⟩ := qa_istore (n := 2) (q := 26) (qa_e rfl h) rfl
      replace g0 := T _ _ g0 (by decide) (Or.inr rfl)
      replace g3 := T _ _ g3 (by decide) (Or.inr rfl)
      have g2 := g
      clear g T
      obtain ⟨lv, h, g, T⟩ := qa_iinc (n := 3) (z := (-1 : Int32)) (q := 29) (qa_e rfl h) rfl (by decide) g3
      replace g0 := T _ _ g0 (by decide) (Or.inr rfl)
      replace g2 := T _ _ g2 (by decide) (Or.inr rfl)
      replace g3 := g
      clear g T
      replace h := qa_goto (q := 9) (qa_e rfl h) rfl
      have e0 : mc_196_99_p9 N s = .inl ((s.1 + (-1 : Int32)), (s.2.1 / (3 : Int32)), m2) := by exact Eq.trans (if_neg c1) (Eq.trans (qa_ie em2) (rfl))
      rw [qa_whl e0]
      exact ih n hn (Nat.le_of_succ_le hF) ((s.1 + (-1 : Int32)), (s.2.1 / (3 : Int32)), m2) _ _ hM es g0 g2 g3 h
/-- BuriedBySevensModel, layCode, (I)V -/
noncomputable def ma_196_99 (N : Nat) (a1 : Int32) (σ : qa_S) : qa_S :=
  qa_in ((qa_wh (fun s => s) (mc_196_99_p9 N) N (((σ 99 0) - (1 : Int32)), a1, σ))) fun r1 =>
  r1.2.2
theorem mb_196_99 {f N : Nat} (hN : f ≤ N) {M : q4_M} {r : Option Value × q4_M} {σ : qa_S} {a1 : Int32} (hM : qa_O M) (es : qa_s M = σ) (h : q4_run f 196 0 (lv_args 0 [.ref 99, .int (a1)]) [] M 0 0 = some r) : r.1 = none ∧ qa_O r.2 ∧ qa_s r.2 = (ma_196_99 N a1 σ) := by
  obtain ⟨lv, el⟩ : ∃ l, l = lv_args 0 [.ref 99, .int (a1)] := ⟨_, rfl⟩
  have g0 : q4_get lv 0 = some (.ref 99) := by rw [el]; rfl
  have g1 : q4_get lv 1 = some (.int (a1)) := by rw [el]; rfl
  rw [← el] at h
  clear el
  replace h := qa_iload (n := 1) (q := 1) (qa_e rfl h) rfl g1
  obtain ⟨lv, h, g, T⟩ := qa_istore (n := 2) (q := 2) (qa_e rfl h) rfl
  replace g0 := T _ _ g0 (by decide) (Or.inr rfl)
  have g2 := g
  clear g T
  replace h := qa_aload (n := 0) (q := 3) (qa_e rfl h) rfl g0
  replace h := qa_gi (j := 0) (q := 6) (qa_e rfl h) rfl hM es rfl (by decide)
  replace h := qa_push (z := (1 : Int32)) (q := 7) (qa_e rfl h) rfl (by decide)
  replace h := qa_isub (q := 8) (qa_e rfl h) rfl
  obtain ⟨lv, h, g, T⟩ := qa_istore (n := 3) (q := 9) (qa_e rfl h) rfl
  replace g0 := T _ _ g0 (by decide) (Or.inr rfl)
  replace g2 := T _ _ g2 (by decide) (Or.inr rfl)
  have g3 := g
  clear g T
  obtain ⟨r1, er1⟩ : ∃ x, x = (qa_wh (fun s => s) (mc_196_99_p9 N) N (((σ 99 0) - (1 : Int32)), a1, σ)) := ⟨_, rfl⟩
  have L := md_196_99_p9 (F := f) (N := N) (r := r) hN f N hN (Nat.le_refl f) (((σ 99 0) - (1 : Int32)), a1, σ) _ _ hM es g0 g2 g3 h
  rw [← er1] at L
  obtain ⟨lv, M, h, hM, es⟩ := L
  have er := qa_rv (qa_e rfl h)
  subst er
  have e0 : ma_196_99 N a1 σ = r1.2.2 := by exact Eq.trans (qa_ie er1) (rfl)
  rw [e0]
  exact ⟨rfl, hM, es⟩
noncomputable def mc_198_99_p4 (N : Nat) (l1 : Int32) (σ : qa_S) (s : Int32 × Int32) : (Int32 × Int32) ⊕ (Int32 × Int32) :=
  if s.1 < (4 : Int32) then
    .inl ((s.1 + (1 : Int32)), (if s.2 = (0 : Int32) then (0 : Int32) else (if (ma_185 (σ 104 l1.toNatClampNeg) s.1) = (0 : Int32) then (1 : Int32) else (if (ma_186_99 l1 (σ 111 s.1.toNatClampNeg) σ) = (ma_186_99 l1 (σ 109 s.1.toNatClampNeg) σ) then (1 : Int32) else (0 : Int32)))))
  else
    .inr (s.1, s.2)
theorem md_198_99_p4 {N F : Nat} {r : Option Value × q4_M} {l1 : Int32} {σ : qa_S} (hN : F ≤ N) : ∀ f n, f ≤ n → f ≤ F → ∀ (s : Int32 × Int32) (lv : List (Nat × Value)) (M : q4_M), qa_O M → qa_s M = σ → q4_get lv 0 = some (.ref 99) → q4_get lv 1 = some (.int (l1)) → q4_get lv 2 = some (.int (s.2)) → q4_get lv 3 = some (.int (s.1)) → q4_run f 198 4 lv [] M 0 0 = some r → ∃ lv M, q4_run F 198 63 lv [] M 0 0 = some r ∧ qa_O M ∧ qa_s M = σ ∧ q4_get lv 2 = some (.int ((qa_wh (fun s => s) (mc_198_99_p4 N l1 σ) n s).2)) := by
  intro f
  induction f with
  | zero => intro n _ _ s lv M hM es _ _ _ _ h; cases h
  | succ f ih =>
    intro n hn hF s lv M hM es g0 g1 g2 g3 h
    obtain ⟨n, rfl⟩ : ∃ n1, n = n1 + 1 := ⟨n - 1, by omega⟩
    replace hn : f ≤ n := Nat.le_of_succ_le_succ hn
    have hN := Nat.le_trans (Nat.le_of_succ_le hF) hN
    replace h := qa_iload (n := 3) (q := 5) (qa_d rfl h) rfl g3
    replace h := qa_push (z := (4 : Int32)) (q := 6) (qa_e rfl h) rfl (by decide)
    by_cases c1 : s.1 < (4 : Int32)
    · replace h := qa_iff (q := 9) (qa_e rfl h) rfl (qa_F_ge c1)
      replace h := qa_iload (n := 2) (q := 10) (qa_e rfl h) rfl g2
      obtain ⟨lv, M, h, hM, es, g0, g1, g3⟩ : ∃ lv M, q4_run f 198 56 lv [.int ((if s.2 = (0 : Int32) then (0 : Int32) else (if (ma_185 (σ 104 l1.toNatClampNeg) s.1) = (0 : Int32) then (1 : Int32) else (if (ma_186_99 l1 (σ 111 s.1.toNatClampNeg) σ) = (ma_186_99 l1 (σ 109 s.1.toNatClampNeg) σ) then (1 : Int32) else (0 : Int32)))))] M 0 0 = some r ∧ qa_O M ∧ qa_s M = σ ∧ q4_get lv 0 = some (.ref 99) ∧ q4_get lv 1 = some (.int (l1)) ∧ q4_get lv 3 = some (.int (s.1)) := by
        by_cases c2 : s.2 = (0 : Int32)
        · replace h := qa_ict (q := 55) (qa_e rfl h) rfl (qa_T_eq c2)
          replace h := qa_push (z := (0 : Int32)) (q := 56) (qa_e rfl h) rfl (by decide)
          exact ⟨lv, M, (qa_hi1 c2 h), hM, es, g0, g1, g3⟩
        · replace h := qa_icf (q := 13) (qa_e rfl h) rfl (qa_F_eq c2)
          replace h := qa_aload (n := 0) (q := 14) (qa_e rfl h) rfl g0
          replace h := qa_gr (b := 104) (j := 6) (q := 17) (qa_e rfl h) rfl hM rfl (by decide)
          replace h := qa_iload (n := 1) (q := 18) (qa_e rfl h) rfl g1
          replace h := qa_iaload (jn := l1.toNatClampNeg) (q := 19) (qa_e rfl h) rfl hM es rfl
          replace h := qa_iload (n := 3) (q := 20) (qa_e rfl h) rfl g3
          obtain ⟨M, h, hM, es⟩ := qa_c1 (y := 185) (as := [.int ((σ 104 l1.toNatClampNeg)), .int (s.1)]) (rest := []) (i := .invokestatic 185) (q := 23) (qa_e rfl h) (Or.inr rfl) rfl rfl (by decide) rfl (fun r hc => mb_185 hM es hc)
          obtain ⟨lv, M, h, hM, es, g0, g1, g3⟩ : ∃ lv M, q4_run f 198 56 lv [.int ((if (ma_185 (σ 104 l1.toNatClampNeg) s.1) = (0 : Int32) then (1 : Int32) else (if (ma_186_99 l1 (σ 111 s.1.toNatClampNeg) σ) = (ma_186_99 l1 (σ 109 s.1.toNatClampNeg) σ) then (1 : Int32) else (0 : Int32))))] M 0 0 = some r ∧ qa_O M ∧ qa_s M = σ ∧ q4_get lv 0 = some (.ref 99) ∧ q4_get lv 1 = some (.int (l1)) ∧ q4_get lv 3 = some (.int (s.1)) := by
            by_cases c3 : (ma_185 (σ 104 l1.toNatClampNeg) s.1) = (0 : Int32)
            · replace h := qa_ict (q := 51) (qa_e rfl h) rfl (qa_T_eq c3)
              replace h := qa_push (z := (1 : Int32)) (q := 52) (qa_e rfl h) rfl (by decide)
              replace h := qa_goto (q := 56) (qa_e rfl h) rfl
              exact ⟨lv, M, (qa_hi1 c3 h), hM, es, g0, g1, g3⟩
            · replace h := qa_icf (q := 26) (qa_e rfl h) rfl (qa_F_eq c3)
              replace h := qa_aload (n := 0) (q := 27) (qa_e rfl h) rfl g0
              replace h := qa_iload (n := 1) (q := 28) (qa_e rfl h) rfl g1
              replace h := qa_aload (n := 0) (q := 29) (qa_e rfl h) rfl g0
              replace h := qa_gr (b := 111) (j := 14) (q := 32) (qa_e rfl h) rfl hM rfl (by decide)
              replace h := qa_iload (n := 3) (q := 33) (qa_e rfl h) rfl g3
              replace h := qa_iaload (jn := s.1.toNatClampNeg) (q := 34) (qa_e rfl h) rfl hM es rfl
              obtain ⟨M, h, hM, es⟩ := qa_c1 (y := 186) (as := [.ref 99, .int (l1), .int ((σ 111 s.1.toNatClampNeg))]) (rest := []) (i := .invokevirtual 186) (q := 37) (qa_e rfl h) (Or.inl rfl) rfl rfl (by decide) rfl (fun r hc => mb_186_99 hM es hc)
              replace h := qa_aload (n := 0) (q := 38) (qa_e rfl h) rfl g0
              replace h := qa_iload (n := 1) (q := 39) (qa_e rfl h) rfl g1
              replace h := qa_aload (n := 0) (q := 40) (qa_e rfl h) rfl g0
              replace h := qa_gr (b := 109) (j := 12) (q := 43) (qa_e rfl h) rfl hM rfl (by decide)
              replace h := qa_iload (n := 3) (q := 44) (qa_e rfl h) rfl g3
              replace h := qa_iaload (jn := s.1.toNatClampNeg) (q := 45) (qa_e rfl h) rfl hM es rfl
              obtain ⟨M, h, hM, es⟩ := qa_c1 (y := 186) (as := [.ref 99, .int (l1), .int ((σ 109 s.1.toNatClampNeg))]) (rest := [.int ((ma_186_99 l1 (σ 111 s.1.toNatClampNeg) σ))]) (i := .invokevirtual 186) (q := 48) (qa_e rfl h) (Or.inl rfl) rfl rfl (by decide) rfl (fun r hc => mb_186_99 hM es hc)
              obtain ⟨lv, M, h, hM, es, g0, g1, g3⟩ : ∃ lv M, q4_run f 198 56 lv [.int ((if (ma_186_99 l1 (σ 111 s.1.toNatClampNeg) σ) = (ma_186_99 l1 (σ 109 s.1.toNatClampNeg) σ) then (1 : Int32) else (0 : Int32)))] M 0 0 = some r ∧ qa_O M ∧ qa_s M = σ ∧ q4_get lv 0 = some (.ref 99) ∧ q4_get lv 1 = some (.int (l1)) ∧ q4_get lv 3 = some (.int (s.1)) := by
                by_cases c4 : (ma_186_99 l1 (σ 111 s.1.toNatClampNeg) σ) = (ma_186_99 l1 (σ 109 s.1.toNatClampNeg) σ)
                · replace h := qa_iff (q := 51) (qa_e rfl h) rfl (qa_F_ne c4)
                  replace h := qa_push (z := (1 : Int32)) (q := 52) (qa_e rfl h) rfl (by decide)
                  replace h := qa_goto (q := 56) (qa_e rfl h) rfl
                  exact ⟨lv, M, (qa_hi1 c4 h), hM, es, g0, g1, g3⟩
                · replace h := qa_ift (q := 55) (qa_e rfl h) rfl (qa_T_ne c4)
                  replace h := qa_push (z := (0 : Int32)) (q := 56) (qa_e rfl h) rfl (by decide)
                  exact ⟨lv, M, (qa_hi0 c4 h), hM, es, g0, g1, g3⟩
              exact ⟨lv, M, (qa_hi0 c3 h), hM, es, g0, g1, g3⟩
          exact ⟨lv, M, (qa_hi0 c2 h), hM, es, g0, g1, g3⟩
      obtain ⟨lv, h, g, T⟩ := qa_istore (n := 2) (q := 57) (qa_e rfl h) rfl
      replace g0 := T _ _ g0 (by decide) (Or.inr rfl)
      replace g1 := T _ _ g1 (by decide) (Or.inr rfl)
      replace g3 := T _ _ g3 (by decide) (Or.inr rfl)
      have g2 := g
      clear g T
      obtain ⟨lv, h, g, T⟩ := qa_iinc (n := 3) (z := (1 : Int32)) (q := 60) (qa_e rfl h) rfl (by decide) g3
      replace g0 := T _ _ g0 (by decide) (Or.inr rfl)
      replace g1 := T _ _ g1 (by decide) (Or.inr rfl)
      replace g2 := T _ _ g2 (by decide) (Or.inr rfl)
      replace g3 := g
      clear g T
      replace h := qa_goto (q := 4) (qa_e rfl h) rfl
      have e0 : mc_198_99_p4 N l1 σ s = .inl ((s.1 + (1 : Int32)), (if s.2 = (0 : Int32) then (0 : Int32) else (if (ma_185 (σ 104 l1.toNatClampNeg) s.1) = (0 : Int32) then (1 : Int32) else (if (ma_186_99 l1 (σ 111 s.1.toNatClampNeg) σ) = (ma_186_99 l1 (σ 109 s.1.toNatClampNeg) σ) then (1 : Int32) else (0 : Int32))))) := by exact Eq.trans (if_pos c1) (rfl)
      rw [qa_whl e0]
      exact ih n hn (Nat.le_of_succ_le hF) ((s.1 + (1 : Int32)), (if s.2 = (0 : Int32) then (0 : Int32) else (if (ma_185 (σ 104 l1.toNatClampNeg) s.1) = (0 : Int32) then (1 : Int32) else (if (ma_186_99 l1 (σ 111 s.1.toNatClampNeg) σ) = (ma_186_99 l1 (σ 109 s.1.toNatClampNeg) σ) then (1 : Int32) else (0 : Int32))))) _ _ hM es g0 g1 g2 g3 h
    · replace h := qa_ift (q := 63) (qa_e rfl h) rfl (qa_T_ge c1)
      have e0 : mc_198_99_p4 N l1 σ s = .inr (s.1, s.2) := by exact Eq.trans (if_neg c1) (rfl)
      rw [qa_whr e0]
      exact ⟨_, _, q61_mono f F _ _ _ _ _ _ _ _ (Nat.le_of_succ_le hF) h, hM, es, g2⟩
/-- BuriedBySevensModel, tellsAlike, (I)Z -/
noncomputable def ma_198_99 (N : Nat) (a1 : Int32) (σ : qa_S) : Int32 :=
  qa_in ((qa_wh (fun s => s) (mc_198_99_p4 N a1 σ) N ((0 : Int32), (1 : Int32)))) fun r1 =>
  r1.2
theorem mb_198_99 {f N : Nat} (hN : f ≤ N) {M : q4_M} {r : Option Value × q4_M} {σ : qa_S} {a1 : Int32} (hM : qa_O M) (es : qa_s M = σ) (h : q4_run f 198 0 (lv_args 0 [.ref 99, .int (a1)]) [] M 0 0 = some r) : r.1 = some (.int ((ma_198_99 N a1 σ))) ∧ qa_O r.2 ∧ qa_s r.2 = σ := by
  obtain ⟨lv, el⟩ : ∃ l, l = lv_args 0 [.ref 99, .int (a1)] := ⟨_, rfl⟩
  have g0 : q4_get lv 0 = some (.ref 99) := by rw [el]; rfl
  have g1 : q4_get lv 1 = some (.int (a1)) := by rw [el]; rfl
  rw [← el] at h
  clear el
  replace h := qa_push (z := (1 : Int32)) (q := 1) (qa_e rfl h) rfl (by decide)
  obtain ⟨lv, h, g, T⟩ := qa_istore (n := 2) (q := 2) (qa_e rfl h) rfl
  replace g0 := T _ _ g0 (by decide) (Or.inr rfl)
  replace g1 := T _ _ g1 (by decide) (Or.inr rfl)
  have g2 := g
  clear g T
  replace h := qa_push (z := (0 : Int32)) (q := 3) (qa_e rfl h) rfl (by decide)
  obtain ⟨lv, h, g, T⟩ := qa_istore (n := 3) (q := 4) (qa_e rfl h) rfl
  replace g0 := T _ _ g0 (by decide) (Or.inr rfl)
  replace g1 := T _ _ g1 (by decide) (Or.inr rfl)
  replace g2 := T _ _ g2 (by decide) (Or.inr rfl)
  have g3 := g
  clear g T
  obtain ⟨r1, er1⟩ : ∃ x, x = (qa_wh (fun s => s) (mc_198_99_p4 N a1 σ) N ((0 : Int32), (1 : Int32))) := ⟨_, rfl⟩
  have L := md_198_99_p4 (l1 := a1) (σ := σ) (F := f) (N := N) (r := r) hN f N hN (Nat.le_refl f) ((0 : Int32), (1 : Int32)) _ _ hM es g0 g1 g2 g3 h
  rw [← er1] at L
  obtain ⟨lv, M, h, hM, es, g2⟩ := L
  replace h := qa_iload (n := 2) (q := 64) (qa_e rfl h) rfl g2
  have er := qa_ri (qa_e rfl h)
  subst er
  have e0 : ma_198_99 N a1 σ = r1.2 := by exact Eq.trans (qa_ie er1) (rfl)
  rw [e0]
  exact ⟨rfl, hM, es⟩
noncomputable def mc_197_99_p4 (N : Nat) (σ : qa_S) (s : Int32 × Int32) : (Int32 × Int32) ⊕ (Int32 × Int32) :=
  if s.1 < (σ 99 5) then
    qa_in ((ma_198_99 N s.1 σ)) fun r2 =>
    .inl ((s.1 + (1 : Int32)), (s.2 ||| (if r2 = (0 : Int32) then (0 : Int32) else ((1 : Int32) <<< (s.1 &&& 31)))))
  else
    .inr (s.1, s.2)
theorem md_197_99_p4 {N F : Nat} {r : Option Value × q4_M} {σ : qa_S} (hN : F ≤ N) : ∀ f n, f ≤ n → f ≤ F → ∀ (s : Int32 × Int32) (lv : List (Nat × Value)) (M : q4_M), qa_O M → qa_s M = σ → q4_get lv 0 = some (.ref 99) → q4_get lv 1 = some (.int (s.2)) → q4_get lv 2 = some (.int (s.1)) → q4_run f 197 4 lv [] M 0 0 = some r → ∃ lv M, q4_run F 197 36 lv [] M 0 0 = some r ∧ qa_O M ∧ qa_s M = σ ∧ q4_get lv 1 = some (.int ((qa_wh (fun s => s) (mc_197_99_p4 N σ) n s).2)) := by
  intro f
  induction f with
  | zero => intro n _ _ s lv M hM es _ _ _ h; cases h
  | succ f ih =>
    intro n hn hF s lv M hM es g0 g1 g2 h
    obtain ⟨n, rfl⟩ : ∃ n1, n = n1 + 1 := ⟨n - 1, by omega⟩
    replace hn : f ≤ n := Nat.le_of_succ_le_succ hn
    have hN := Nat.le_trans (Nat.le_of_succ_le hF) hN
    replace h := qa_iload (n := 2) (q := 5) (qa_d rfl h) rfl g2
    replace h := qa_aload (n := 0) (q := 6) (qa_e rfl h) rfl g0
    replace h := qa_gi (j := 5) (q := 9) (qa_e rfl h) rfl hM es rfl (by decide)
    by_cases c1 : s.1 < (σ 99 5)
    · replace h := qa_iff (q := 12) (qa_e rfl h) rfl (qa_F_ge c1)
      replace h := qa_iload (n := 1) (q := 13) (qa_e rfl h) rfl g1
      replace h := qa_aload (n := 0) (q := 14) (qa_e rfl h) rfl g0
      replace h := qa_iload (n := 2) (q := 15) (qa_e rfl h) rfl g2
      obtain ⟨r2, er2⟩ : ∃ x, x = (ma_198_99 N s.1 σ) := ⟨_, rfl⟩
      obtain ⟨M, h, hM, es⟩ := qa_c1 (y := 198) (as := [.ref 99, .int (s.1)]) (rest := [.int (s.2)]) (i := .invokevirtual 198) (q := 18) (qa_e rfl h) (Or.inl rfl) rfl rfl (by decide) rfl (fun r hc => mb_198_99 hN hM es hc)
      rw [← er2] at h
      obtain ⟨lv, M, h, hM, es, g0, g2⟩ : ∃ lv M, q4_run f 197 28 lv [.int ((if r2 = (0 : Int32) then (0 : Int32) else ((1 : Int32) <<< (s.1 &&& 31)))), .int (s.2)] M 0 0 = some r ∧ qa_O M ∧ qa_s M = σ ∧ q4_get lv 0 = some (.ref 99) ∧ q4_get lv 2 = some (.int (s.1)) := by
        by_cases c3 : r2 = (0 : Int32)
        · replace h := qa_ict (q := 27) (qa_e rfl h) rfl (qa_T_eq c3)
          replace h := qa_push (z := (0 : Int32)) (q := 28) (qa_e rfl h) rfl (by decide)
          exact ⟨lv, M, (qa_hi1 c3 h), hM, es, g0, g2⟩
        · replace h := qa_icf (q := 21) (qa_e rfl h) rfl (qa_F_eq c3)
          replace h := qa_push (z := (1 : Int32)) (q := 22) (qa_e rfl h) rfl (by decide)
          replace h := qa_iload (n := 2) (q := 23) (qa_e rfl h) rfl g2
          replace h := qa_ishl (q := 24) (qa_e rfl h) rfl
          replace h := qa_goto (q := 28) (qa_e rfl h) rfl
          exact ⟨lv, M, (qa_hi0 c3 h), hM, es, g0, g2⟩
      replace h := qa_ior (q := 29) (qa_e rfl h) rfl
      obtain ⟨lv, h, g, T⟩ := qa_istore (n := 1) (q := 30) (qa_e rfl h) rfl
      replace g0 := T _ _ g0 (by decide) (Or.inr rfl)
      replace g2 := T _ _ g2 (by decide) (Or.inr rfl)
      have g1 := g
      clear g T
      obtain ⟨lv, h, g, T⟩ := qa_iinc (n := 2) (z := (1 : Int32)) (q := 33) (qa_e rfl h) rfl (by decide) g2
      replace g0 := T _ _ g0 (by decide) (Or.inr rfl)
      replace g1 := T _ _ g1 (by decide) (Or.inr rfl)
      replace g2 := g
      clear g T
      replace h := qa_goto (q := 4) (qa_e rfl h) rfl
      have e0 : mc_197_99_p4 N σ s = .inl ((s.1 + (1 : Int32)), (s.2 ||| (if r2 = (0 : Int32) then (0 : Int32) else ((1 : Int32) <<< (s.1 &&& 31))))) := by exact Eq.trans (if_pos c1) (Eq.trans (qa_ie er2) (rfl))
      rw [qa_whl e0]
      exact ih n hn (Nat.le_of_succ_le hF) ((s.1 + (1 : Int32)), (s.2 ||| (if r2 = (0 : Int32) then (0 : Int32) else ((1 : Int32) <<< (s.1 &&& 31))))) _ _ hM es g0 g1 g2 h
    · replace h := qa_ift (q := 36) (qa_e rfl h) rfl (qa_T_ge c1)
      have e0 : mc_197_99_p4 N σ s = .inr (s.1, s.2) := by exact Eq.trans (if_neg c1) (rfl)
      rw [qa_whr e0]
      exact ⟨_, _, q61_mono f F _ _ _ _ _ _ _ _ (Nat.le_of_succ_le hF) h, hM, es, g1⟩
/-- BuriedBySevensModel, whoTellAlike, ()I -/
noncomputable def ma_197_99 (N : Nat) (σ : qa_S) : Int32 :=
  qa_in ((qa_wh (fun s => s) (mc_197_99_p4 N σ) N ((0 : Int32), (0 : Int32)))) fun r1 =>
  r1.2
theorem mb_197_99 {f N : Nat} (hN : f ≤ N) {M : q4_M} {r : Option Value × q4_M} {σ : qa_S} (hM : qa_O M) (es : qa_s M = σ) (h : q4_run f 197 0 (lv_args 0 [.ref 99]) [] M 0 0 = some r) : r.1 = some (.int ((ma_197_99 N σ))) ∧ qa_O r.2 ∧ qa_s r.2 = σ := by
  obtain ⟨lv, el⟩ : ∃ l, l = lv_args 0 [.ref 99] := ⟨_, rfl⟩
  have g0 : q4_get lv 0 = some (.ref 99) := by rw [el]; rfl
  rw [← el] at h
  clear el
  replace h := qa_push (z := (0 : Int32)) (q := 1) (qa_e rfl h) rfl (by decide)
  obtain ⟨lv, h, g, T⟩ := qa_istore (n := 1) (q := 2) (qa_e rfl h) rfl
  replace g0 := T _ _ g0 (by decide) (Or.inr rfl)
  have g1 := g
  clear g T
  replace h := qa_push (z := (0 : Int32)) (q := 3) (qa_e rfl h) rfl (by decide)
  obtain ⟨lv, h, g, T⟩ := qa_istore (n := 2) (q := 4) (qa_e rfl h) rfl
  replace g0 := T _ _ g0 (by decide) (Or.inr rfl)
  replace g1 := T _ _ g1 (by decide) (Or.inr rfl)
  have g2 := g
  clear g T
  obtain ⟨r1, er1⟩ : ∃ x, x = (qa_wh (fun s => s) (mc_197_99_p4 N σ) N ((0 : Int32), (0 : Int32))) := ⟨_, rfl⟩
  have L := md_197_99_p4 (σ := σ) (F := f) (N := N) (r := r) hN f N hN (Nat.le_refl f) ((0 : Int32), (0 : Int32)) _ _ hM es g0 g1 g2 h
  rw [← er1] at L
  obtain ⟨lv, M, h, hM, es, g1⟩ := L
  replace h := qa_iload (n := 1) (q := 37) (qa_e rfl h) rfl g1
  have er := qa_ri (qa_e rfl h)
  subst er
  have e0 : ma_197_99 N σ = r1.2 := by exact Eq.trans (qa_ie er1) (rfl)
  rw [e0]
  exact ⟨rfl, hM, es⟩
noncomputable def mc_194_99_p11 (N : Nat) (l1 : Int32) (s : Int32 × qa_S) : (Int32 × qa_S) ⊕ (Int32 × qa_S) :=
  if s.1 < l1 then
    qa_in ((ma_196_99 N s.1 s.2)) fun m2 =>
    qa_in ((ma_183_99 N m2)) fun m3 =>
    qa_in ((ma_197_99 N m3)) fun r4 =>
    qa_in (qa_u m3 112 s.1.toNatClampNeg r4) fun m5 =>
    .inl ((s.1 + (1 : Int32)), m5)
  else
    .inr (s.1, s.2)
theorem md_194_99_p11 {N F : Nat} {r : Option Value × q4_M} {l1 : Int32} (hN : F ≤ N) : ∀ f n, f ≤ n → f ≤ F → ∀ (s : Int32 × qa_S) (lv : List (Nat × Value)) (M : q4_M), qa_O M → qa_s M = s.2 → q4_get lv 0 = some (.ref 99) → q4_get lv 1 = some (.int (l1)) → q4_get lv 2 = some (.int (s.1)) → q4_run f 194 11 lv [] M 0 0 = some r → ∃ lv M, q4_run F 194 41 lv [] M 0 0 = some r ∧ qa_O M ∧ qa_s M = (qa_wh (fun s => s) (mc_194_99_p11 N l1) n s).2 := by
  intro f
  induction f with
  | zero => intro n _ _ s lv M hM es _ _ _ h; cases h
  | succ f ih =>
    intro n hn hF s lv M hM es g0 g1 g2 h
    obtain ⟨n, rfl⟩ : ∃ n1, n = n1 + 1 := ⟨n - 1, by omega⟩
    replace hn : f ≤ n := Nat.le_of_succ_le_succ hn
    have hN := Nat.le_trans (Nat.le_of_succ_le hF) hN
    replace h := qa_iload (n := 2) (q := 12) (qa_d rfl h) rfl g2
    replace h := qa_iload (n := 1) (q := 13) (qa_e rfl h) rfl g1
    by_cases c1 : s.1 < l1
    · replace h := qa_iff (q := 16) (qa_e rfl h) rfl (qa_F_ge c1)
      replace h := qa_aload (n := 0) (q := 17) (qa_e rfl h) rfl g0
      replace h := qa_iload (n := 2) (q := 18) (qa_e rfl h) rfl g2
      obtain ⟨m2, em2⟩ : ∃ x, x = (ma_196_99 N s.1 s.2) := ⟨_, rfl⟩
      obtain ⟨M, h, hM, es⟩ := qa_c0 (y := 196) (as := [.ref 99, .int (s.1)]) (rest := []) (i := .invokevirtual 196) (q := 21) (qa_e rfl h) (Or.inl rfl) rfl rfl (by decide) rfl (fun r hc => mb_196_99 hN hM es hc)
      rw [← em2] at es
      replace h := qa_aload (n := 0) (q := 22) (qa_e rfl h) rfl g0
      obtain ⟨m3, em3⟩ : ∃ x, x = (ma_183_99 N m2) := ⟨_, rfl⟩
      obtain ⟨M, h, hM, es⟩ := qa_c0 (y := 183) (as := [.ref 99]) (rest := []) (i := .invokevirtual 183) (q := 25) (qa_e rfl h) (Or.inl rfl) rfl rfl (by decide) rfl (fun r hc => mb_183_99 hN hM es hc)
      rw [← em3] at es
      replace h := qa_aload (n := 0) (q := 26) (qa_e rfl h) rfl g0
      replace h := qa_gr (b := 112) (j := 15) (q := 29) (qa_e rfl h) rfl hM rfl (by decide)
      replace h := qa_iload (n := 2) (q := 30) (qa_e rfl h) rfl g2
      replace h := qa_aload (n := 0) (q := 31) (qa_e rfl h) rfl g0
      obtain ⟨r4, er4⟩ : ∃ x, x = (ma_197_99 N m3) := ⟨_, rfl⟩
      obtain ⟨M, h, hM, es⟩ := qa_c1 (y := 197) (as := [.ref 99]) (rest := [.int (s.1), .ref 112]) (i := .invokevirtual 197) (q := 34) (qa_e rfl h) (Or.inl rfl) rfl rfl (by decide) rfl (fun r hc => mb_197_99 hN hM es hc)
      rw [← er4] at h
      obtain ⟨m5, em5⟩ : ∃ x, x = qa_u m3 112 s.1.toNatClampNeg r4 := ⟨_, rfl⟩
      obtain ⟨M, h, hM, es⟩ := qa_iastore (jn := s.1.toNatClampNeg) (q := 35) (qa_e rfl h) rfl hM es rfl
      rw [← em5] at es
      obtain ⟨lv, h, g, T⟩ := qa_iinc (n := 2) (z := (1 : Int32)) (q := 38) (qa_e rfl h) rfl (by decide) g2
      replace g0 := T _ _ g0 (by decide) (Or.inr rfl)
      replace g1 := T _ _ g1 (by decide) (Or.inr rfl)
      replace g2 := g
      clear g T
      replace h := qa_goto (q := 11) (qa_e rfl h) rfl
      have e0 : mc_194_99_p11 N l1 s = .inl ((s.1 + (1 : Int32)), m5) := by exact Eq.trans (if_pos c1) (Eq.trans (qa_ie em2) (Eq.trans (qa_ie em3) (Eq.trans (qa_ie er4) (Eq.trans (qa_ie em5) (rfl)))))
      rw [qa_whl e0]
      exact ih n hn (Nat.le_of_succ_le hF) ((s.1 + (1 : Int32)), m5) _ _ hM es g0 g1 g2 h
    · replace h := qa_ift (q := 41) (qa_e rfl h) rfl (qa_T_ge c1)
      have e0 : mc_194_99_p11 N l1 s = .inr (s.1, s.2) := by exact Eq.trans (if_neg c1) (rfl)
      rw [qa_whr e0]
      exact ⟨_, _, q61_mono f F _ _ _ _ _ _ _ _ (Nat.le_of_succ_le hF) h, hM, es⟩
/-- BuriedBySevensModel, layAll, ()V -/
noncomputable def ma_194_99 (N : Nat) (σ : qa_S) : qa_S :=
  qa_in ((ma_180_99 N σ)) fun m1 =>
  qa_in ((ma_195_99 N m1)) fun r2 =>
  qa_in ((qa_wh (fun s => s) (mc_194_99_p11 N r2) N ((1 : Int32), m1))) fun r3 =>
  r3.2
theorem mb_194_99 {f N : Nat} (hN : f ≤ N) {M : q4_M} {r : Option Value × q4_M} {σ : qa_S} (hM : qa_O M) (es : qa_s M = σ) (h : q4_run f 194 0 (lv_args 0 [.ref 99]) [] M 0 0 = some r) : r.1 = none ∧ qa_O r.2 ∧ qa_s r.2 = (ma_194_99 N σ) := by
  obtain ⟨lv, el⟩ : ∃ l, l = lv_args 0 [.ref 99] := ⟨_, rfl⟩
  have g0 : q4_get lv 0 = some (.ref 99) := by rw [el]; rfl
  rw [← el] at h
  clear el
  replace h := qa_aload (n := 0) (q := 1) (qa_e rfl h) rfl g0
  obtain ⟨m1, em1⟩ : ∃ x, x = (ma_180_99 N σ) := ⟨_, rfl⟩
  obtain ⟨M, h, hM, es⟩ := qa_c0 (y := 180) (as := [.ref 99]) (rest := []) (i := .invokevirtual 180) (q := 4) (qa_e rfl h) (Or.inl rfl) rfl rfl (by decide) rfl (fun r hc => mb_180_99 hN hM es hc)
  rw [← em1] at es
  replace h := qa_aload (n := 0) (q := 5) (qa_e rfl h) rfl g0
  obtain ⟨r2, er2⟩ : ∃ x, x = (ma_195_99 N m1) := ⟨_, rfl⟩
  obtain ⟨M, h, hM, es⟩ := qa_c1 (y := 195) (as := [.ref 99]) (rest := []) (i := .invokevirtual 195) (q := 8) (qa_e rfl h) (Or.inl rfl) rfl rfl (by decide) rfl (fun r hc => mb_195_99 hN hM es hc)
  rw [← er2] at h
  obtain ⟨lv, h, g, T⟩ := qa_istore (n := 1) (q := 9) (qa_e rfl h) rfl
  replace g0 := T _ _ g0 (by decide) (Or.inr rfl)
  have g1 := g
  clear g T
  replace h := qa_push (z := (1 : Int32)) (q := 10) (qa_e rfl h) rfl (by decide)
  obtain ⟨lv, h, g, T⟩ := qa_istore (n := 2) (q := 11) (qa_e rfl h) rfl
  replace g0 := T _ _ g0 (by decide) (Or.inr rfl)
  replace g1 := T _ _ g1 (by decide) (Or.inr rfl)
  have g2 := g
  clear g T
  obtain ⟨r3, er3⟩ : ∃ x, x = (qa_wh (fun s => s) (mc_194_99_p11 N r2) N ((1 : Int32), m1)) := ⟨_, rfl⟩
  have L := md_194_99_p11 (l1 := r2) (F := f) (N := N) (r := r) hN f N hN (Nat.le_refl f) ((1 : Int32), m1) _ _ hM es g0 g1 g2 h
  rw [← er3] at L
  obtain ⟨lv, M, h, hM, es⟩ := L
  have er := qa_rv (qa_e rfl h)
  subst er
  have e0 : ma_194_99 N σ = r3.2 := by exact Eq.trans (qa_ie em1) (Eq.trans (qa_ie er2) (Eq.trans (qa_ie er3) (rfl)))
  rw [e0]
  exact ⟨rfl, hM, es⟩
noncomputable def mc_199_99_p10 (N : Nat) (l1 : Int32) (l3 : Int32) (σ : qa_S) (s : Int32 × Int32) : (Int32 × Int32) ⊕ (Int32 × Int32) :=
  if s.1 < l3 then
    .inl ((s.1 + (1 : Int32)), (s.2 + (if ((σ 112 s.1.toNatClampNeg) &&& l1) = l1 then (1 : Int32) else (0 : Int32))))
  else
    .inr (s.1, s.2)
theorem md_199_99_p10 {N F : Nat} {r : Option Value × q4_M} {l1 : Int32} {l3 : Int32} {σ : qa_S} (hN : F ≤ N) : ∀ f n, f ≤ n → f ≤ F → ∀ (s : Int32 × Int32) (lv : List (Nat × Value)) (M : q4_M), qa_O M → qa_s M = σ → q4_get lv 0 = some (.ref 99) → q4_get lv 1 = some (.int (l1)) → q4_get lv 2 = some (.int (s.2)) → q4_get lv 3 = some (.int (l3)) → q4_get lv 4 = some (.int (s.1)) → q4_run f 199 10 lv [] M 0 0 = some r → ∃ lv M, q4_run F 199 43 lv [] M 0 0 = some r ∧ qa_O M ∧ qa_s M = σ ∧ q4_get lv 2 = some (.int ((qa_wh (fun s => s) (mc_199_99_p10 N l1 l3 σ) n s).2)) := by
  intro f
  induction f with
  | zero => intro n _ _ s lv M hM es _ _ _ _ _ h; cases h
  | succ f ih =>
    intro n hn hF s lv M hM es g0 g1 g2 g3 g4 h
    obtain ⟨n, rfl⟩ : ∃ n1, n = n1 + 1 := ⟨n - 1, by omega⟩
    replace hn : f ≤ n := Nat.le_of_succ_le_succ hn
    have hN := Nat.le_trans (Nat.le_of_succ_le hF) hN
    replace h := qa_iload (n := 4) (q := 12) (qa_d rfl h) rfl g4
    replace h := qa_iload (n := 3) (q := 13) (qa_e rfl h) rfl g3
    by_cases c1 : s.1 < l3
    · replace h := qa_iff (q := 16) (qa_e rfl h) rfl (qa_F_ge c1)
      replace h := qa_iload (n := 2) (q := 17) (qa_e rfl h) rfl g2
      replace h := qa_aload (n := 0) (q := 18) (qa_e rfl h) rfl g0
      replace h := qa_gr (b := 112) (j := 15) (q := 21) (qa_e rfl h) rfl hM rfl (by decide)
      replace h := qa_iload (n := 4) (q := 23) (qa_e rfl h) rfl g4
      replace h := qa_iaload (jn := s.1.toNatClampNeg) (q := 24) (qa_e rfl h) rfl hM es rfl
      replace h := qa_iload (n := 1) (q := 25) (qa_e rfl h) rfl g1
      replace h := qa_iand (q := 26) (qa_e rfl h) rfl
      replace h := qa_iload (n := 1) (q := 27) (qa_e rfl h) rfl g1
      obtain ⟨lv, M, h, hM, es, g0, g1, g3, g4⟩ : ∃ lv M, q4_run f 199 35 lv [.int ((if ((σ 112 s.1.toNatClampNeg) &&& l1) = l1 then (1 : Int32) else (0 : Int32))), .int (s.2)] M 0 0 = some r ∧ qa_O M ∧ qa_s M = σ ∧ q4_get lv 0 = some (.ref 99) ∧ q4_get lv 1 = some (.int (l1)) ∧ q4_get lv 3 = some (.int (l3)) ∧ q4_get lv 4 = some (.int (s.1)) := by
        by_cases c2 : ((σ 112 s.1.toNatClampNeg) &&& l1) = l1
        · replace h := qa_iff (q := 30) (qa_e rfl h) rfl (qa_F_ne c2)
          replace h := qa_push (z := (1 : Int32)) (q := 31) (qa_e rfl h) rfl (by decide)
          replace h := qa_goto (q := 35) (qa_e rfl h) rfl
          exact ⟨lv, M, (qa_hi1 c2 h), hM, es, g0, g1, g3, g4⟩
        · replace h := qa_ift (q := 34) (qa_e rfl h) rfl (qa_T_ne c2)
          replace h := qa_push (z := (0 : Int32)) (q := 35) (qa_e rfl h) rfl (by decide)
          exact ⟨lv, M, (qa_hi0 c2 h), hM, es, g0, g1, g3, g4⟩
      replace h := qa_iadd (q := 36) (qa_e rfl h) rfl
      obtain ⟨lv, h, g, T⟩ := qa_istore (n := 2) (q := 37) (qa_e rfl h) rfl
      replace g0 := T _ _ g0 (by decide) (Or.inr rfl)
      replace g1 := T _ _ g1 (by decide) (Or.inr rfl)
      replace g3 := T _ _ g3 (by decide) (Or.inr rfl)
      replace g4 := T _ _ g4 (by decide) (Or.inr rfl)
      have g2 := g
      clear g T
      obtain ⟨lv, h, g, T⟩ := qa_iinc (n := 4) (z := (1 : Int32)) (q := 40) (qa_e rfl h) rfl (by decide) g4
      replace g0 := T _ _ g0 (by decide) (Or.inr rfl)
      replace g1 := T _ _ g1 (by decide) (Or.inr rfl)
      replace g2 := T _ _ g2 (by decide) (Or.inr rfl)
      replace g3 := T _ _ g3 (by decide) (Or.inr rfl)
      replace g4 := g
      clear g T
      replace h := qa_goto (q := 10) (qa_e rfl h) rfl
      have e0 : mc_199_99_p10 N l1 l3 σ s = .inl ((s.1 + (1 : Int32)), (s.2 + (if ((σ 112 s.1.toNatClampNeg) &&& l1) = l1 then (1 : Int32) else (0 : Int32)))) := by exact Eq.trans (if_pos c1) (rfl)
      rw [qa_whl e0]
      exact ih n hn (Nat.le_of_succ_le hF) ((s.1 + (1 : Int32)), (s.2 + (if ((σ 112 s.1.toNatClampNeg) &&& l1) = l1 then (1 : Int32) else (0 : Int32)))) _ _ hM es g0 g1 g2 g3 g4 h
    · replace h := qa_ift (q := 43) (qa_e rfl h) rfl (qa_T_ge c1)
      have e0 : mc_199_99_p10 N l1 l3 σ s = .inr (s.1, s.2) := by exact Eq.trans (if_neg c1) (rfl)
      rw [qa_whr e0]
      exact ⟨_, _, q61_mono f F _ _ _ _ _ _ _ _ (Nat.le_of_succ_le hF) h, hM, es, g2⟩
/-- BuriedBySevensModel, fittingBy, (I)I -/
noncomputable def ma_199_99 (N : Nat) (a1 : Int32) (σ : qa_S) : Int32 :=
  qa_in ((ma_195_99 N σ)) fun r1 =>
  qa_in ((qa_wh (fun s => s) (mc_199_99_p10 N a1 r1 σ) N ((1 : Int32), (0 : Int32)))) fun r2 =>
  r2.2
theorem mb_199_99 {f N : Nat} (hN : f ≤ N) {M : q4_M} {r : Option Value × q4_M} {σ : qa_S} {a1 : Int32} (hM : qa_O M) (es : qa_s M = σ) (h : q4_run f 199 0 (lv_args 0 [.ref 99, .int (a1)]) [] M 0 0 = some r) : r.1 = some (.int ((ma_199_99 N a1 σ))) ∧ qa_O r.2 ∧ qa_s r.2 = σ := by
  obtain ⟨lv, el⟩ : ∃ l, l = lv_args 0 [.ref 99, .int (a1)] := ⟨_, rfl⟩
  have g0 : q4_get lv 0 = some (.ref 99) := by rw [el]; rfl
  have g1 : q4_get lv 1 = some (.int (a1)) := by rw [el]; rfl
  rw [← el] at h
  clear el
  replace h := qa_push (z := (0 : Int32)) (q := 1) (qa_e rfl h) rfl (by decide)
  obtain ⟨lv, h, g, T⟩ := qa_istore (n := 2) (q := 2) (qa_e rfl h) rfl
  replace g0 := T _ _ g0 (by decide) (Or.inr rfl)
  replace g1 := T _ _ g1 (by decide) (Or.inr rfl)
  have g2 := g
  clear g T
  replace h := qa_aload (n := 0) (q := 3) (qa_e rfl h) rfl g0
  obtain ⟨r1, er1⟩ : ∃ x, x = (ma_195_99 N σ) := ⟨_, rfl⟩
  obtain ⟨M, h, hM, es⟩ := qa_c1 (y := 195) (as := [.ref 99]) (rest := []) (i := .invokevirtual 195) (q := 6) (qa_e rfl h) (Or.inl rfl) rfl rfl (by decide) rfl (fun r hc => mb_195_99 hN hM es hc)
  rw [← er1] at h
  obtain ⟨lv, h, g, T⟩ := qa_istore (n := 3) (q := 7) (qa_e rfl h) rfl
  replace g0 := T _ _ g0 (by decide) (Or.inr rfl)
  replace g1 := T _ _ g1 (by decide) (Or.inr rfl)
  replace g2 := T _ _ g2 (by decide) (Or.inr rfl)
  have g3 := g
  clear g T
  replace h := qa_push (z := (1 : Int32)) (q := 8) (qa_e rfl h) rfl (by decide)
  obtain ⟨lv, h, g, T⟩ := qa_istore (n := 4) (q := 10) (qa_e rfl h) rfl
  replace g0 := T _ _ g0 (by decide) (Or.inr rfl)
  replace g1 := T _ _ g1 (by decide) (Or.inr rfl)
  replace g2 := T _ _ g2 (by decide) (Or.inr rfl)
  replace g3 := T _ _ g3 (by decide) (Or.inr rfl)
  have g4 := g
  clear g T
  obtain ⟨r2, er2⟩ : ∃ x, x = (qa_wh (fun s => s) (mc_199_99_p10 N a1 r1 σ) N ((1 : Int32), (0 : Int32))) := ⟨_, rfl⟩
  have L := md_199_99_p10 (l1 := a1) (l3 := r1) (σ := σ) (F := f) (N := N) (r := r) hN f N hN (Nat.le_refl f) ((1 : Int32), (0 : Int32)) _ _ hM es g0 g1 g2 g3 g4 h
  rw [← er2] at L
  obtain ⟨lv, M, h, hM, es, g2⟩ := L
  replace h := qa_iload (n := 2) (q := 44) (qa_e rfl h) rfl g2
  have er := qa_ri (qa_e rfl h)
  subst er
  have e0 : ma_199_99 N a1 σ = r2.2 := by exact Eq.trans (qa_ie er1) (Eq.trans (qa_ie er2) (rfl))
  rw [e0]
  exact ⟨rfl, hM, es⟩
/-- BuriedBySevensModel, fitting, ()I -/
noncomputable def ma_193_99 (N : Nat) (σ : qa_S) : Int32 × qa_S :=
  qa_in ((ma_194_99 N σ)) fun m1 =>
  qa_in ((ma_199_99 N (ma_190_99 m1) m1)) fun r2 =>
  (r2, m1)
theorem mb_193_99 {f N : Nat} (hN : f ≤ N) {M : q4_M} {r : Option Value × q4_M} {σ : qa_S} (hM : qa_O M) (es : qa_s M = σ) (h : q4_run f 193 0 (lv_args 0 [.ref 99]) [] M 0 0 = some r) : r.1 = some (.int ((ma_193_99 N σ).1)) ∧ qa_O r.2 ∧ qa_s r.2 = (ma_193_99 N σ).2 := by
  obtain ⟨lv, el⟩ : ∃ l, l = lv_args 0 [.ref 99] := ⟨_, rfl⟩
  have g0 : q4_get lv 0 = some (.ref 99) := by rw [el]; rfl
  rw [← el] at h
  clear el
  replace h := qa_aload (n := 0) (q := 1) (qa_e rfl h) rfl g0
  obtain ⟨m1, em1⟩ : ∃ x, x = (ma_194_99 N σ) := ⟨_, rfl⟩
  obtain ⟨M, h, hM, es⟩ := qa_c0 (y := 194) (as := [.ref 99]) (rest := []) (i := .invokevirtual 194) (q := 4) (qa_e rfl h) (Or.inl rfl) rfl rfl (by decide) rfl (fun r hc => mb_194_99 hN hM es hc)
  rw [← em1] at es
  replace h := qa_aload (n := 0) (q := 5) (qa_e rfl h) rfl g0
  replace h := qa_aload (n := 0) (q := 6) (qa_e rfl h) rfl g0
  obtain ⟨M, h, hM, es⟩ := qa_c1 (y := 190) (as := [.ref 99]) (rest := [.ref 99]) (i := .invokevirtual 190) (q := 9) (qa_e rfl h) (Or.inl rfl) rfl rfl (by decide) rfl (fun r hc => mb_190_99 hM es hc)
  obtain ⟨r2, er2⟩ : ∃ x, x = (ma_199_99 N (ma_190_99 m1) m1) := ⟨_, rfl⟩
  obtain ⟨M, h, hM, es⟩ := qa_c1 (y := 199) (as := [.ref 99, .int ((ma_190_99 m1))]) (rest := []) (i := .invokevirtual 199) (q := 12) (qa_e rfl h) (Or.inl rfl) rfl rfl (by decide) rfl (fun r hc => mb_199_99 hN hM es hc)
  rw [← er2] at h
  have er := qa_ri (qa_e rfl h)
  subst er
  have e0 : ma_193_99 N σ = (r2, m1) := by exact Eq.trans (qa_ie em1) (Eq.trans (qa_ie er2) (rfl))
  rw [e0]
  exact ⟨rfl, hM, es⟩
noncomputable def mc_192_99_p51 (N : Nat) (l1 : Int32) (σ : qa_S) (s : Int32) : (Int32) ⊕ (Int32) :=
  if (σ 112 s.toNatClampNeg) = (ma_190_99 σ) then
    .inr s
  else
    .inl (s + (1 : Int32))
theorem md_192_99_p51 {N F : Nat} {r : Option Value × q4_M} {l1 : Int32} {σ : qa_S} (hN : F ≤ N) : ∀ f n, f ≤ n → f ≤ F → ∀ (s : Int32) (lv : List (Nat × Value)) (M : q4_M), qa_O M → qa_s M = σ → q4_get lv 0 = some (.ref 99) → q4_get lv 1 = some (.int (l1)) → q4_get lv 3 = some (.int (s)) → q4_run f 192 51 lv [] M 0 0 = some r → ∃ lv M, q4_run F 192 70 lv [] M 0 0 = some r ∧ qa_O M ∧ qa_s M = σ ∧ q4_get lv 0 = some (.ref 99) ∧ q4_get lv 1 = some (.int (l1)) ∧ q4_get lv 3 = some (.int ((qa_wh (fun s => s) (mc_192_99_p51 N l1 σ) n s))) := by
  intro f
  induction f with
  | zero => intro n _ _ s lv M hM es _ _ _ h; cases h
  | succ f ih =>
    intro n hn hF s lv M hM es g0 g1 g3 h
    obtain ⟨n, rfl⟩ : ∃ n1, n = n1 + 1 := ⟨n - 1, by omega⟩
    replace hn : f ≤ n := Nat.le_of_succ_le_succ hn
    have hN := Nat.le_trans (Nat.le_of_succ_le hF) hN
    replace h := qa_aload (n := 0) (q := 52) (qa_d rfl h) rfl g0
    replace h := qa_gr (b := 112) (j := 15) (q := 55) (qa_e rfl h) rfl hM rfl (by decide)
    replace h := qa_iload (n := 3) (q := 56) (qa_e rfl h) rfl g3
    replace h := qa_iaload (jn := s.toNatClampNeg) (q := 57) (qa_e rfl h) rfl hM es rfl
    replace h := qa_aload (n := 0) (q := 58) (qa_e rfl h) rfl g0
    obtain ⟨M, h, hM, es⟩ := qa_c1 (y := 190) (as := [.ref 99]) (rest := [.int ((σ 112 s.toNatClampNeg))]) (i := .invokevirtual 190) (q := 61) (qa_e rfl h) (Or.inl rfl) rfl rfl (by decide) rfl (fun r hc => mb_190_99 hM es hc)
    by_cases c1 : (σ 112 s.toNatClampNeg) = (ma_190_99 σ)
    · replace h := qa_ift (q := 70) (qa_e rfl h) rfl (qa_T_eq c1)
      have e0 : mc_192_99_p51 N l1 σ s = .inr s := by exact Eq.trans (if_pos c1) (rfl)
      rw [qa_whr e0]
      exact ⟨_, _, q61_mono f F _ _ _ _ _ _ _ _ (Nat.le_of_succ_le hF) h, hM, es, g0, g1, g3⟩
    · replace h := qa_iff (q := 64) (qa_e rfl h) rfl (qa_F_eq c1)
      obtain ⟨lv, h, g, T⟩ := qa_iinc (n := 3) (z := (1 : Int32)) (q := 67) (qa_e rfl h) rfl (by decide) g3
      replace g0 := T _ _ g0 (by decide) (Or.inr rfl)
      replace g1 := T _ _ g1 (by decide) (Or.inr rfl)
      replace g3 := g
      clear g T
      replace h := qa_goto (q := 51) (qa_e rfl h) rfl
      have e0 : mc_192_99_p51 N l1 σ s = .inl (s + (1 : Int32)) := by exact Eq.trans (if_neg c1) (rfl)
      rw [qa_whl e0]
      exact ih n hn (Nat.le_of_succ_le hF) (s + (1 : Int32)) _ _ hM es g0 g1 g3 h
/-- BuriedBySevensModel, fits, (I)I -/
noncomputable def ma_192_99 (N : Nat) (a1 : Int32) (σ : qa_S) : Int32 × qa_S :=
  qa_in (qa_u σ 99 9 (0 : Int32)) fun m1 =>
  if a1 < (-1 : Int32) then
    qa_in ((ma_152_99 (-4 : Int32) m1)) fun r3 =>
    (r3.1, r3.2)
  else
    qa_in ((ma_193_99 N m1)) fun r4 =>
    if a1 < (0 : Int32) then
      ((if a1 < (0 : Int32) then r4.1 else (-9 : Int32)), r4.2)
    else
      if r4.1 = (0 : Int32) then
        ((if a1 < (0 : Int32) then r4.1 else (-9 : Int32)), r4.2)
      else
        if a1 < (r4.2 99 0) then
          qa_in ((qa_wh (fun s => s) (mc_192_99_p51 N a1 r4.2) N (1 : Int32))) fun r10 =>
          qa_in ((ma_196_99 N r10 r4.2)) fun m11 =>
          ((m11 110 a1.toNatClampNeg), m11)
        else
          ((if a1 < (0 : Int32) then r4.1 else (-9 : Int32)), r4.2)
theorem mb_192_99 {f N : Nat} (hN : f ≤ N) {M : q4_M} {r : Option Value × q4_M} {σ : qa_S} {a1 : Int32} (hM : qa_O M) (es : qa_s M = σ) (h : q4_run f 192 0 (lv_args 0 [.ref 99, .int (a1)]) [] M 0 0 = some r) : r.1 = some (.int ((ma_192_99 N a1 σ).1)) ∧ qa_O r.2 ∧ qa_s r.2 = (ma_192_99 N a1 σ).2 := by
  obtain ⟨lv, el⟩ : ∃ l, l = lv_args 0 [.ref 99, .int (a1)] := ⟨_, rfl⟩
  have g0 : q4_get lv 0 = some (.ref 99) := by rw [el]; rfl
  have g1 : q4_get lv 1 = some (.int (a1)) := by rw [el]; rfl
  rw [← el] at h
  clear el
  replace h := qa_aload (n := 0) (q := 1) (qa_e rfl h) rfl g0
  replace h := qa_push (z := (0 : Int32)) (q := 2) (qa_e rfl h) rfl (by decide)
  obtain ⟨m1, em1⟩ : ∃ x, x = qa_u σ 99 9 (0 : Int32) := ⟨_, rfl⟩
  obtain ⟨M, h, hM, es⟩ := qa_pf (j := 9) (q := 5) (qa_e rfl h) rfl hM es rfl (by decide)
  rw [← em1] at es
  replace h := qa_iload (n := 1) (q := 6) (qa_e rfl h) rfl g1
  replace h := qa_push (z := (-1 : Int32)) (q := 7) (qa_e rfl h) rfl (by decide)
  by_cases c2 : a1 < (-1 : Int32)
  · replace h := qa_iff (q := 10) (qa_e rfl h) rfl (qa_F_ge c2)
    replace h := qa_aload (n := 0) (q := 11) (qa_e rfl h) rfl g0
    replace h := qa_push (z := (-4 : Int32)) (q := 13) (qa_e rfl h) rfl (by decide)
    obtain ⟨r3, er3⟩ : ∃ x, x = (ma_152_99 (-4 : Int32) m1) := ⟨_, rfl⟩
    obtain ⟨M, h, hM, es⟩ := qa_c1 (y := 152) (as := [.ref 99, .int ((-4 : Int32))]) (rest := []) (i := .invokevirtual 152) (q := 16) (qa_e rfl h) (Or.inl rfl) rfl rfl (by decide) rfl (fun r hc => mb_152_99 hM es hc)
    rw [← er3] at h es
    have er := qa_ri (qa_e rfl h)
    subst er
    have e0 : ma_192_99 N a1 σ = (r3.1, r3.2) := by exact Eq.trans (qa_ie em1) (Eq.trans (if_pos c2) (Eq.trans (qa_ie er3) (rfl)))
    rw [e0]
    exact ⟨rfl, hM, es⟩
  · replace h := qa_ift (q := 17) (qa_e rfl h) rfl (qa_T_ge c2)
    replace h := qa_aload (n := 0) (q := 18) (qa_e rfl h) rfl g0
    obtain ⟨r4, er4⟩ : ∃ x, x = (ma_193_99 N m1) := ⟨_, rfl⟩
    obtain ⟨M, h, hM, es⟩ := qa_c1 (y := 193) (as := [.ref 99]) (rest := []) (i := .invokevirtual 193) (q := 21) (qa_e rfl h) (Or.inl rfl) rfl rfl (by decide) rfl (fun r hc => mb_193_99 hN hM es hc)
    rw [← er4] at h es
    obtain ⟨lv, h, g, T⟩ := qa_istore (n := 2) (q := 22) (qa_e rfl h) rfl
    replace g0 := T _ _ g0 (by decide) (Or.inr rfl)
    replace g1 := T _ _ g1 (by decide) (Or.inr rfl)
    have g2 := g
    clear g T
    replace h := qa_iload (n := 1) (q := 23) (qa_e rfl h) rfl g1
    by_cases c5 : a1 < (0 : Int32)
    · replace h := qa_ict (q := 38) (qa_e rfl h) rfl (qa_T_lt c5)
      replace h := qa_iload (n := 1) (q := 39) (qa_e rfl h) rfl g1
      obtain ⟨lv, M, h, hM, es⟩ : ∃ lv M, q4_run f 192 48 lv [.int ((if a1 < (0 : Int32) then r4.1 else (-9 : Int32)))] M 0 0 = some r ∧ qa_O M ∧ qa_s M = r4.2 := by
        by_cases c6 : a1 < (0 : Int32)
        · replace h := qa_icf (q := 42) (qa_e rfl h) rfl (qa_F_ge c6)
          replace h := qa_iload (n := 2) (q := 43) (qa_e rfl h) rfl g2
          replace h := qa_goto (q := 48) (qa_e rfl h) rfl
          exact ⟨lv, M, (qa_hi1 c6 h), hM, es⟩
        · replace h := qa_ict (q := 46) (qa_e rfl h) rfl (qa_T_ge c6)
          replace h := qa_push (z := (-9 : Int32)) (q := 48) (qa_e rfl h) rfl (by decide)
          exact ⟨lv, M, (qa_hi0 c6 h), hM, es⟩
      have er := qa_ri (qa_e rfl h)
      subst er
      have e0 : ma_192_99 N a1 σ = ((if a1 < (0 : Int32) then r4.1 else (-9 : Int32)), r4.2) := by exact Eq.trans (qa_ie em1) (Eq.trans (if_neg c2) (Eq.trans (qa_ie er4) (Eq.trans (if_pos c5) (rfl))))
      rw [e0]
      exact ⟨rfl, hM, es⟩
    · replace h := qa_icf (q := 26) (qa_e rfl h) rfl (qa_F_lt c5)
      replace h := qa_iload (n := 2) (q := 27) (qa_e rfl h) rfl g2
      by_cases c7 : r4.1 = (0 : Int32)
      · replace h := qa_ict (q := 38) (qa_e rfl h) rfl (qa_T_eq c7)
        replace h := qa_iload (n := 1) (q := 39) (qa_e rfl h) rfl g1
        obtain ⟨lv, M, h, hM, es⟩ : ∃ lv M, q4_run f 192 48 lv [.int ((if a1 < (0 : Int32) then r4.1 else (-9 : Int32)))] M 0 0 = some r ∧ qa_O M ∧ qa_s M = r4.2 := by
          by_cases c8 : a1 < (0 : Int32)
          · replace h := qa_icf (q := 42) (qa_e rfl h) rfl (qa_F_ge c8)
            replace h := qa_iload (n := 2) (q := 43) (qa_e rfl h) rfl g2
            replace h := qa_goto (q := 48) (qa_e rfl h) rfl
            exact ⟨lv, M, (qa_hi1 c8 h), hM, es⟩
          · replace h := qa_ict (q := 46) (qa_e rfl h) rfl (qa_T_ge c8)
            replace h := qa_push (z := (-9 : Int32)) (q := 48) (qa_e rfl h) rfl (by decide)
            exact ⟨lv, M, (qa_hi0 c8 h), hM, es⟩
        have er := qa_ri (qa_e rfl h)
        subst er
        have e0 : ma_192_99 N a1 σ = ((if a1 < (0 : Int32) then r4.1 else (-9 : Int32)), r4.2) := by exact Eq.trans (qa_ie em1) (Eq.trans (if_neg c2) (Eq.trans (qa_ie er4) (Eq.trans (if_neg c5) (Eq.trans (if_pos c7) (rfl)))))
        rw [e0]
        exact ⟨rfl, hM, es⟩
      · replace h := qa_icf (q := 30) (qa_e rfl h) rfl (qa_F_eq c7)
        replace h := qa_iload (n := 1) (q := 31) (qa_e rfl h) rfl g1
        replace h := qa_aload (n := 0) (q := 32) (qa_e rfl h) rfl g0
        replace h := qa_gi (j := 0) (q := 35) (qa_e rfl h) rfl hM es rfl (by decide)
        by_cases c9 : a1 < (r4.2 99 0)
        · replace h := qa_ift (q := 49) (qa_e rfl h) rfl (qa_T_lt c9)
          replace h := qa_push (z := (1 : Int32)) (q := 50) (qa_e rfl h) rfl (by decide)
          obtain ⟨lv, h, g, T⟩ := qa_istore (n := 3) (q := 51) (qa_e rfl h) rfl
          replace g0 := T _ _ g0 (by decide) (Or.inr rfl)
          replace g1 := T _ _ g1 (by decide) (Or.inr rfl)
          have g3 := g
          clear g T
          obtain ⟨r10, er10⟩ : ∃ x, x = (qa_wh (fun s => s) (mc_192_99_p51 N a1 r4.2) N (1 : Int32)) := ⟨_, rfl⟩
          have L := md_192_99_p51 (l1 := a1) (σ := r4.2) (F := f) (N := N) (r := r) hN f N hN (Nat.le_refl f) (1 : Int32) _ _ hM es g0 g1 g3 h
          rw [← er10] at L
          obtain ⟨lv, M, h, hM, es, g0, g1, g3⟩ := L
          replace h := qa_aload (n := 0) (q := 71) (qa_e rfl h) rfl g0
          replace h := qa_iload (n := 3) (q := 72) (qa_e rfl h) rfl g3
          obtain ⟨m11, em11⟩ : ∃ x, x = (ma_196_99 N r10 r4.2) := ⟨_, rfl⟩
          obtain ⟨M, h, hM, es⟩ := qa_c0 (y := 196) (as := [.ref 99, .int (r10)]) (rest := []) (i := .invokevirtual 196) (q := 75) (qa_e rfl h) (Or.inl rfl) rfl rfl (by decide) rfl (fun r hc => mb_196_99 hN hM es hc)
          rw [← em11] at es
          replace h := qa_aload (n := 0) (q := 76) (qa_e rfl h) rfl g0
          replace h := qa_gr (b := 110) (j := 13) (q := 79) (qa_e rfl h) rfl hM rfl (by decide)
          replace h := qa_iload (n := 1) (q := 80) (qa_e rfl h) rfl g1
          replace h := qa_iaload (jn := a1.toNatClampNeg) (q := 81) (qa_e rfl h) rfl hM es rfl
          have er := qa_ri (qa_e rfl h)
          subst er
          have e0 : ma_192_99 N a1 σ = ((m11 110 a1.toNatClampNeg), m11) := by exact Eq.trans (qa_ie em1) (Eq.trans (if_neg c2) (Eq.trans (qa_ie er4) (Eq.trans (if_neg c5) (Eq.trans (if_neg c7) (Eq.trans (if_pos c9) (Eq.trans (qa_ie er10) (Eq.trans (qa_ie em11) (rfl))))))))
          rw [e0]
          exact ⟨rfl, hM, es⟩
        · replace h := qa_iff (q := 38) (qa_e rfl h) rfl (qa_F_lt c9)
          replace h := qa_iload (n := 1) (q := 39) (qa_e rfl h) rfl g1
          obtain ⟨lv, M, h, hM, es⟩ : ∃ lv M, q4_run f 192 48 lv [.int ((if a1 < (0 : Int32) then r4.1 else (-9 : Int32)))] M 0 0 = some r ∧ qa_O M ∧ qa_s M = r4.2 := by
            by_cases c12 : a1 < (0 : Int32)
            · replace h := qa_icf (q := 42) (qa_e rfl h) rfl (qa_F_ge c12)
              replace h := qa_iload (n := 2) (q := 43) (qa_e rfl h) rfl g2
              replace h := qa_goto (q := 48) (qa_e rfl h) rfl
              exact ⟨lv, M, (qa_hi1 c12 h), hM, es⟩
            · replace h := qa_ict (q := 46) (qa_e rfl h) rfl (qa_T_ge c12)
              replace h := qa_push (z := (-9 : Int32)) (q := 48) (qa_e rfl h) rfl (by decide)
              exact ⟨lv, M, (qa_hi0 c12 h), hM, es⟩
          have er := qa_ri (qa_e rfl h)
          subst er
          have e0 : ma_192_99 N a1 σ = ((if a1 < (0 : Int32) then r4.1 else (-9 : Int32)), r4.2) := by exact Eq.trans (qa_ie em1) (Eq.trans (if_neg c2) (Eq.trans (qa_ie er4) (Eq.trans (if_neg c5) (Eq.trans (if_neg c7) (Eq.trans (if_neg c9) (rfl))))))
          rw [e0]
          exact ⟨rfl, hM, es⟩
/-- BuriedBySevensModel, wrongBit, (III)I -/
noncomputable def ma_201 (a0 : Int32) (a1 : Int32) (a2 : Int32) : Int32 :=
  (if a0 = (0 : Int32) then (if (ma_158 (a1).toInt64 (0 : Int64) (a2).toInt64) = (0 : Int32) then (-2 : Int32) else a0) else a0)
theorem mb_201 {f : Nat} {M : q4_M} {r : Option Value × q4_M} {σ : qa_S} {a0 : Int32} {a1 : Int32} {a2 : Int32} (hM : qa_O M) (es : qa_s M = σ) (h : q4_run f 201 0 (lv_args 0 [.int (a0), .int (a1), .int (a2)]) [] M 0 0 = some r) : r.1 = some (.int ((ma_201 a0 a1 a2))) ∧ qa_O r.2 ∧ qa_s r.2 = σ := by
  obtain ⟨lv, el⟩ : ∃ l, l = lv_args 0 [.int (a0), .int (a1), .int (a2)] := ⟨_, rfl⟩
  have g0 : q4_get lv 0 = some (.int (a0)) := by rw [el]; rfl
  have g1 : q4_get lv 1 = some (.int (a1)) := by rw [el]; rfl
  have g2 : q4_get lv 2 = some (.int (a2)) := by rw [el]; rfl
  rw [← el] at h
  clear el
  replace h := qa_iload (n := 0) (q := 1) (qa_e rfl h) rfl g0
  obtain ⟨lv, M, h, hM, es⟩ : ∃ lv M, q4_run f 201 21 lv [.int ((if a0 = (0 : Int32) then (if (ma_158 (a1).toInt64 (0 : Int64) (a2).toInt64) = (0 : Int32) then (-2 : Int32) else a0) else a0))] M 0 0 = some r ∧ qa_O M ∧ qa_s M = σ := by
    by_cases c1 : a0 = (0 : Int32)
    · replace h := qa_icf (q := 4) (qa_e rfl h) rfl (qa_F_ne c1)
      replace h := qa_iload (n := 1) (q := 5) (qa_e rfl h) rfl g1
      replace h := qa_i2l (q := 6) (qa_e rfl h) rfl
      replace h := qa_lpush (z := (0 : Int64)) (q := 7) (qa_e rfl h) rfl (by decide)
      replace h := qa_iload (n := 2) (q := 8) (qa_e rfl h) rfl g2
      replace h := qa_i2l (q := 9) (qa_e rfl h) rfl
      obtain ⟨M, h, hM, es⟩ := qa_c1 (y := 158) (as := [.long ((a1).toInt64), .long ((0 : Int64)), .long ((a2).toInt64)]) (rest := []) (i := .invokestatic 158) (q := 12) (qa_e rfl h) (Or.inr rfl) rfl rfl (by decide) rfl (fun r hc => mb_158 hM es hc)
      obtain ⟨lv, M, h, hM, es⟩ : ∃ lv M, q4_run f 201 21 lv [.int ((if (ma_158 (a1).toInt64 (0 : Int64) (a2).toInt64) = (0 : Int32) then (-2 : Int32) else a0))] M 0 0 = some r ∧ qa_O M ∧ qa_s M = σ := by
        by_cases c2 : (ma_158 (a1).toInt64 (0 : Int64) (a2).toInt64) = (0 : Int32)
        · replace h := qa_icf (q := 15) (qa_e rfl h) rfl (qa_F_ne c2)
          replace h := qa_push (z := (-2 : Int32)) (q := 17) (qa_e rfl h) rfl (by decide)
          replace h := qa_goto (q := 21) (qa_e rfl h) rfl
          exact ⟨lv, M, (qa_hi1 c2 h), hM, es⟩
        · replace h := qa_ict (q := 20) (qa_e rfl h) rfl (qa_T_ne c2)
          replace h := qa_iload (n := 0) (q := 21) (qa_e rfl h) rfl g0
          exact ⟨lv, M, (qa_hi0 c2 h), hM, es⟩
      exact ⟨lv, M, (qa_hi1 c1 h), hM, es⟩
    · replace h := qa_ict (q := 20) (qa_e rfl h) rfl (qa_T_ne c1)
      replace h := qa_iload (n := 0) (q := 21) (qa_e rfl h) rfl g0
      exact ⟨lv, M, (qa_hi0 c1 h), hM, es⟩
  have er := qa_ri (qa_e rfl h)
  subst er
  have e0 : ma_201 a0 a1 a2 = (if a0 = (0 : Int32) then (if (ma_158 (a1).toInt64 (0 : Int64) (a2).toInt64) = (0 : Int32) then (-2 : Int32) else a0) else a0) := by exact rfl
  rw [e0]
  exact ⟨rfl, hM, es⟩
noncomputable def mc_202_99_p11 (N : Nat) (l1 : Int32) (l2 : Int32) (l4 : Int32) (s : Int32 × Int32 × qa_S) : (Int32 × Int32 × qa_S) ⊕ (Int32 × Int32 × qa_S) :=
  if s.1 < l4 then
    qa_in ((ma_196_99 N s.1 s.2.2)) fun m3 =>
    qa_in ((if ((s.2.2 112 s.1.toNatClampNeg) &&& l1) = l1 then m3 else s.2.2)) fun m5 =>
    .inl ((s.1 + (1 : Int32)), (if ((s.2.2 112 s.1.toNatClampNeg) &&& l1) = l1 then (s.2.1 + (if (0 : Int32) < (m3 110 l2.toNatClampNeg) then (1 : Int32) else (0 : Int32))) else s.2.1), m5)
  else
    .inr (s.1, s.2.1, s.2.2)
theorem md_202_99_p11 {N F : Nat} {r : Option Value × q4_M} {l1 : Int32} {l2 : Int32} {l4 : Int32} (hN : F ≤ N) : ∀ f n, f ≤ n → f ≤ F → ∀ (s : Int32 × Int32 × qa_S) (lv : List (Nat × Value)) (M : q4_M), qa_O M → qa_s M = s.2.2 → q4_get lv 0 = some (.ref 99) → q4_get lv 1 = some (.int (l1)) → q4_get lv 2 = some (.int (l2)) → q4_get lv 3 = some (.int (s.2.1)) → q4_get lv 4 = some (.int (l4)) → q4_get lv 5 = some (.int (s.1)) → q4_run f 202 11 lv [] M 0 0 = some r → ∃ lv M, q4_run F 202 60 lv [] M 0 0 = some r ∧ qa_O M ∧ qa_s M = (qa_wh (fun s => s) (mc_202_99_p11 N l1 l2 l4) n s).2.2 ∧ q4_get lv 3 = some (.int ((qa_wh (fun s => s) (mc_202_99_p11 N l1 l2 l4) n s).2.1)) := by
  intro f
  induction f with
  | zero => intro n _ _ s lv M hM es _ _ _ _ _ _ h; cases h
  | succ f ih =>
    intro n hn hF s lv M hM es g0 g1 g2 g3 g4 g5 h
    obtain ⟨n, rfl⟩ : ∃ n1, n = n1 + 1 := ⟨n - 1, by omega⟩
    replace hn : f ≤ n := Nat.le_of_succ_le_succ hn
    have hN := Nat.le_trans (Nat.le_of_succ_le hF) hN
    replace h := qa_iload (n := 5) (q := 13) (qa_d rfl h) rfl g5
    replace h := qa_iload (n := 4) (q := 15) (qa_e rfl h) rfl g4
    by_cases c1 : s.1 < l4
    · replace h := qa_iff (q := 18) (qa_e rfl h) rfl (qa_F_ge c1)
      replace h := qa_aload (n := 0) (q := 19) (qa_e rfl h) rfl g0
      replace h := qa_gr (b := 112) (j := 15) (q := 22) (qa_e rfl h) rfl hM rfl (by decide)
      replace h := qa_iload (n := 5) (q := 24) (qa_e rfl h) rfl g5
      replace h := qa_iaload (jn := s.1.toNatClampNeg) (q := 25) (qa_e rfl h) rfl hM es rfl
      replace h := qa_iload (n := 1) (q := 26) (qa_e rfl h) rfl g1
      replace h := qa_iand (q := 27) (qa_e rfl h) rfl
      replace h := qa_iload (n := 1) (q := 28) (qa_e rfl h) rfl g1
      obtain ⟨m3, em3⟩ : ∃ x, x = (ma_196_99 N s.1 s.2.2) := ⟨_, rfl⟩
      obtain ⟨m5, em5⟩ : ∃ x, x = (if ((s.2.2 112 s.1.toNatClampNeg) &&& l1) = l1 then m3 else s.2.2) := ⟨_, rfl⟩
      obtain ⟨lv, M, h, hM, es, g0, g1, g2, g3, g4, g5⟩ : ∃ lv M, q4_run f 202 54 lv [] M 0 0 = some r ∧ qa_O M ∧ qa_s M = m5 ∧ q4_get lv 0 = some (.ref 99) ∧ q4_get lv 1 = some (.int (l1)) ∧ q4_get lv 2 = some (.int (l2)) ∧ q4_get lv 3 = some (.int ((if ((s.2.2 112 s.1.toNatClampNeg) &&& l1) = l1 then (s.2.1 + (if (0 : Int32) < (m3 110 l2.toNatClampNeg) then (1 : Int32) else (0 : Int32))) else s.2.1))) ∧ q4_get lv 4 = some (.int (l4)) ∧ q4_get lv 5 = some (.int (s.1)) := by
        by_cases c2 : ((s.2.2 112 s.1.toNatClampNeg) &&& l1) = l1
        · replace h := qa_iff (q := 31) (qa_e rfl h) rfl (qa_F_ne c2)
          replace h := qa_aload (n := 0) (q := 32) (qa_e rfl h) rfl g0
          replace h := qa_iload (n := 5) (q := 34) (qa_e rfl h) rfl g5
          obtain ⟨M, h, hM, es⟩ := qa_c0 (y := 196) (as := [.ref 99, .int (s.1)]) (rest := []) (i := .invokevirtual 196) (q := 37) (qa_e rfl h) (Or.inl rfl) rfl rfl (by decide) rfl (fun r hc => mb_196_99 hN hM es hc)
          rw [← em3] at es
          replace h := qa_iload (n := 3) (q := 38) (qa_e rfl h) rfl g3
          replace h := qa_aload (n := 0) (q := 39) (qa_e rfl h) rfl g0
          replace h := qa_gr (b := 110) (j := 13) (q := 42) (qa_e rfl h) rfl hM rfl (by decide)
          replace h := qa_iload (n := 2) (q := 43) (qa_e rfl h) rfl g2
          replace h := qa_iaload (jn := l2.toNatClampNeg) (q := 44) (qa_e rfl h) rfl hM es rfl
          obtain ⟨lv, M, h, hM, es, g0, g1, g2, g4, g5⟩ : ∃ lv M, q4_run f 202 52 lv [.int ((if (0 : Int32) < (m3 110 l2.toNatClampNeg) then (1 : Int32) else (0 : Int32))), .int (s.2.1)] M 0 0 = some r ∧ qa_O M ∧ qa_s M = m3 ∧ q4_get lv 0 = some (.ref 99) ∧ q4_get lv 1 = some (.int (l1)) ∧ q4_get lv 2 = some (.int (l2)) ∧ q4_get lv 4 = some (.int (l4)) ∧ q4_get lv 5 = some (.int (s.1)) := by
            by_cases c4 : (0 : Int32) < (m3 110 l2.toNatClampNeg)
            · replace h := qa_icf (q := 47) (qa_e rfl h) rfl (qa_F_le c4)
              replace h := qa_push (z := (1 : Int32)) (q := 48) (qa_e rfl h) rfl (by decide)
              replace h := qa_goto (q := 52) (qa_e rfl h) rfl
              exact ⟨lv, M, (qa_hi1 c4 h), hM, es, g0, g1, g2, g4, g5⟩
            · replace h := qa_ict (q := 51) (qa_e rfl h) rfl (qa_T_le c4)
              replace h := qa_push (z := (0 : Int32)) (q := 52) (qa_e rfl h) rfl (by decide)
              exact ⟨lv, M, (qa_hi0 c4 h), hM, es, g0, g1, g2, g4, g5⟩
          replace h := qa_iadd (q := 53) (qa_e rfl h) rfl
          obtain ⟨lv, h, g, T⟩ := qa_istore (n := 3) (q := 54) (qa_e rfl h) rfl
          replace g0 := T _ _ g0 (by decide) (Or.inr rfl)
          replace g1 := T _ _ g1 (by decide) (Or.inr rfl)
          replace g2 := T _ _ g2 (by decide) (Or.inr rfl)
          replace g4 := T _ _ g4 (by decide) (Or.inr rfl)
          replace g5 := T _ _ g5 (by decide) (Or.inr rfl)
          have g3 := g
          clear g T
          exact ⟨lv, M, h, hM, ((qa_ms1 c2 es).trans em5.symm), g0, g1, g2, (qa_gi1 c2 g3), g4, g5⟩
        · replace h := qa_ift (q := 54) (qa_e rfl h) rfl (qa_T_ne c2)
          exact ⟨lv, M, h, hM, ((qa_ms0 c2 es).trans em5.symm), g0, g1, g2, (qa_gi0 c2 g3), g4, g5⟩
      obtain ⟨lv, h, g, T⟩ := qa_iinc (n := 5) (z := (1 : Int32)) (q := 57) (qa_e rfl h) rfl (by decide) g5
      replace g0 := T _ _ g0 (by decide) (Or.inr rfl)
      replace g1 := T _ _ g1 (by decide) (Or.inr rfl)
      replace g2 := T _ _ g2 (by decide) (Or.inr rfl)
      replace g3 := T _ _ g3 (by decide) (Or.inr rfl)
      replace g4 := T _ _ g4 (by decide) (Or.inr rfl)
      replace g5 := g
      clear g T
      replace h := qa_goto (q := 11) (qa_e rfl h) rfl
      have e0 : mc_202_99_p11 N l1 l2 l4 s = .inl ((s.1 + (1 : Int32)), (if ((s.2.2 112 s.1.toNatClampNeg) &&& l1) = l1 then (s.2.1 + (if (0 : Int32) < (m3 110 l2.toNatClampNeg) then (1 : Int32) else (0 : Int32))) else s.2.1), m5) := by exact Eq.trans (if_pos c1) (Eq.trans (qa_ie em3) (Eq.trans (qa_ie em5) (rfl)))
      rw [qa_whl e0]
      exact ih n hn (Nat.le_of_succ_le hF) ((s.1 + (1 : Int32)), (if ((s.2.2 112 s.1.toNatClampNeg) &&& l1) = l1 then (s.2.1 + (if (0 : Int32) < (m3 110 l2.toNatClampNeg) then (1 : Int32) else (0 : Int32))) else s.2.1), m5) _ _ hM es g0 g1 g2 g3 g4 g5 h
    · replace h := qa_ift (q := 60) (qa_e rfl h) rfl (qa_T_ge c1)
      have e0 : mc_202_99_p11 N l1 l2 l4 s = .inr (s.1, s.2.1, s.2.2) := by exact Eq.trans (if_neg c1) (rfl)
      rw [qa_whr e0]
      exact ⟨_, _, q61_mono f F _ _ _ _ _ _ _ _ (Nat.le_of_succ_le hF) h, hM, es, g3⟩
/-- BuriedBySevensModel, withCask, (II)I -/
noncomputable def ma_202_99 (N : Nat) (a1 : Int32) (a2 : Int32) (σ : qa_S) : Int32 × qa_S :=
  qa_in ((ma_195_99 N σ)) fun r1 =>
  qa_in ((qa_wh (fun s => s) (mc_202_99_p11 N a1 a2 r1) N ((1 : Int32), (0 : Int32), σ))) fun r2 =>
  (r2.2.1, r2.2.2)
theorem mb_202_99 {f N : Nat} (hN : f ≤ N) {M : q4_M} {r : Option Value × q4_M} {σ : qa_S} {a1 : Int32} {a2 : Int32} (hM : qa_O M) (es : qa_s M = σ) (h : q4_run f 202 0 (lv_args 0 [.ref 99, .int (a1), .int (a2)]) [] M 0 0 = some r) : r.1 = some (.int ((ma_202_99 N a1 a2 σ).1)) ∧ qa_O r.2 ∧ qa_s r.2 = (ma_202_99 N a1 a2 σ).2 := by
  obtain ⟨lv, el⟩ : ∃ l, l = lv_args 0 [.ref 99, .int (a1), .int (a2)] := ⟨_, rfl⟩
  have g0 : q4_get lv 0 = some (.ref 99) := by rw [el]; rfl
  have g1 : q4_get lv 1 = some (.int (a1)) := by rw [el]; rfl
  have g2 : q4_get lv 2 = some (.int (a2)) := by rw [el]; rfl
  rw [← el] at h
  clear el
  replace h := qa_push (z := (0 : Int32)) (q := 1) (qa_e rfl h) rfl (by decide)
  obtain ⟨lv, h, g, T⟩ := qa_istore (n := 3) (q := 2) (qa_e rfl h) rfl
  replace g0 := T _ _ g0 (by decide) (Or.inr rfl)
  replace g1 := T _ _ g1 (by decide) (Or.inr rfl)
  replace g2 := T _ _ g2 (by decide) (Or.inr rfl)
  have g3 := g
  clear g T
  replace h := qa_aload (n := 0) (q := 3) (qa_e rfl h) rfl g0
  obtain ⟨r1, er1⟩ : ∃ x, x = (ma_195_99 N σ) := ⟨_, rfl⟩
  obtain ⟨M, h, hM, es⟩ := qa_c1 (y := 195) (as := [.ref 99]) (rest := []) (i := .invokevirtual 195) (q := 6) (qa_e rfl h) (Or.inl rfl) rfl rfl (by decide) rfl (fun r hc => mb_195_99 hN hM es hc)
  rw [← er1] at h
  obtain ⟨lv, h, g, T⟩ := qa_istore (n := 4) (q := 8) (qa_e rfl h) rfl
  replace g0 := T _ _ g0 (by decide) (Or.inr rfl)
  replace g1 := T _ _ g1 (by decide) (Or.inr rfl)
  replace g2 := T _ _ g2 (by decide) (Or.inr rfl)
  replace g3 := T _ _ g3 (by decide) (Or.inr rfl)
  have g4 := g
  clear g T
  replace h := qa_push (z := (1 : Int32)) (q := 9) (qa_e rfl h) rfl (by decide)
  obtain ⟨lv, h, g, T⟩ := qa_istore (n := 5) (q := 11) (qa_e rfl h) rfl
  replace g0 := T _ _ g0 (by decide) (Or.inr rfl)
  replace g1 := T _ _ g1 (by decide) (Or.inr rfl)
  replace g2 := T _ _ g2 (by decide) (Or.inr rfl)
  replace g3 := T _ _ g3 (by decide) (Or.inr rfl)
  replace g4 := T _ _ g4 (by decide) (Or.inr rfl)
  have g5 := g
  clear g T
  obtain ⟨r2, er2⟩ : ∃ x, x = (qa_wh (fun s => s) (mc_202_99_p11 N a1 a2 r1) N ((1 : Int32), (0 : Int32), σ)) := ⟨_, rfl⟩
  have L := md_202_99_p11 (l1 := a1) (l2 := a2) (l4 := r1) (F := f) (N := N) (r := r) hN f N hN (Nat.le_refl f) ((1 : Int32), (0 : Int32), σ) _ _ hM es g0 g1 g2 g3 g4 g5 h
  rw [← er2] at L
  obtain ⟨lv, M, h, hM, es, g3⟩ := L
  replace h := qa_iload (n := 3) (q := 61) (qa_e rfl h) rfl g3
  have er := qa_ri (qa_e rfl h)
  subst er
  have e0 : ma_202_99 N a1 a2 σ = (r2.2.1, r2.2.2) := by exact Eq.trans (qa_ie er1) (Eq.trans (qa_ie er2) (rfl))
  rw [e0]
  exact ⟨rfl, hM, es⟩
noncomputable def mc_204_p17 (N : Nat) (s : Int64 × Int64) : (Int64 × Int64) ⊕ (Int64 × Int64) :=
  if (lg_cmp s.2 (0 : Int64)) = (0 : Int32) then
    .inr (s.1, s.2)
  else
    .inl (s.2, (s.1 - s.1 / s.2 * s.2))
theorem md_204_p17 {N F : Nat} {r : Option Value × q4_M} {σ : qa_S} (hN : F ≤ N) : ∀ f n, f ≤ n → f ≤ F → ∀ (s : Int64 × Int64) (lv : List (Nat × Value)) (M : q4_M), qa_O M → qa_s M = σ → q4_get lv 4 = some (.long (s.1)) → q4_get lv 6 = some (.long (s.2)) → q4_run f 204 17 lv [] M 0 0 = some r → ∃ lv M, q4_run F 204 42 lv [] M 0 0 = some r ∧ qa_O M ∧ qa_s M = σ ∧ q4_get lv 4 = some (.long ((qa_wh (fun s => s) (mc_204_p17 N) n s).1)) := by
  intro f
  induction f with
  | zero => intro n _ _ s lv M hM es _ _ h; cases h
  | succ f ih =>
    intro n hn hF s lv M hM es g4 g6 h
    obtain ⟨n, rfl⟩ : ∃ n1, n = n1 + 1 := ⟨n - 1, by omega⟩
    replace hn : f ≤ n := Nat.le_of_succ_le_succ hn
    have hN := Nat.le_trans (Nat.le_of_succ_le hF) hN
    replace h := qa_lload (n := 6) (q := 19) (qa_d rfl h) rfl g6
    replace h := qa_lpush (z := (0 : Int64)) (q := 20) (qa_e rfl h) rfl (by decide)
    replace h := qa_lcmp (q := 21) (qa_e rfl h) rfl
    by_cases c1 : (lg_cmp s.2 (0 : Int64)) = (0 : Int32)
    · replace h := qa_ict (q := 42) (qa_e rfl h) rfl (qa_T_eq c1)
      have e0 : mc_204_p17 N s = .inr (s.1, s.2) := by exact Eq.trans (if_pos c1) (rfl)
      rw [qa_whr e0]
      exact ⟨_, _, q61_mono f F _ _ _ _ _ _ _ _ (Nat.le_of_succ_le hF) h, hM, es, g4⟩
    · replace h := qa_icf (q := 24) (qa_e rfl h) rfl (qa_F_eq c1)
      replace h := qa_lload (n := 4) (q := 26) (qa_e rfl h) rfl g4
      replace h := qa_lload (n := 6) (q := 28) (qa_e rfl h) rfl g6
      replace h := qa_lrem (q := 29) (qa_e rfl h) rfl
      obtain ⟨lv, h, g, T⟩ := qa_lstore (n := 8) (q := 31) (qa_e rfl h) rfl
      replace g6 := T _ _ g6 (by decide) (by decide) (Or.inl (by decide))
      have g8 := g
      clear g T
      replace h := qa_lload (n := 6) (q := 33) (qa_e rfl h) rfl g6
      obtain ⟨lv, h, g, T⟩ := qa_lstore (n := 4) (q := 35) (qa_e rfl h) rfl
      replace g8 := T _ _ g8 (by decide) (by decide) (Or.inl (by decide))
      have g4 := g
      clear g T
      replace h := qa_lload (n := 8) (q := 37) (qa_e rfl h) rfl g8
      obtain ⟨lv, h, g, T⟩ := qa_lstore (n := 6) (q := 39) (qa_e rfl h) rfl
      replace g4 := T _ _ g4 (by decide) (by decide) (Or.inl (by decide))
      have g6 := g
      clear g T
      replace h := qa_goto (q := 17) (qa_e rfl h) rfl
      have e0 : mc_204_p17 N s = .inl (s.2, (s.1 - s.1 / s.2 * s.2)) := by exact Eq.trans (if_neg c1) (rfl)
      rw [qa_whl e0]
      exact ih n hn (Nat.le_of_succ_le hF) (s.2, (s.1 - s.1 / s.2 * s.2)) _ _ hM es g4 g6 h
/-- BuriedBySevensModel, divisor, (JJ)J -/
noncomputable def ma_204 (N : Nat) (a0 : Int64) (a2 : Int64) : Int64 :=
  qa_in ((qa_wh (fun s => s) (mc_204_p17 N) N ((if (lg_cmp a0 (0 : Int64)) < (0 : Int32) then (-a0) else a0), a2))) fun r2 =>
  r2.1
theorem mb_204 {f N : Nat} (hN : f ≤ N) {M : q4_M} {r : Option Value × q4_M} {σ : qa_S} {a0 : Int64} {a2 : Int64} (hM : qa_O M) (es : qa_s M = σ) (h : q4_run f 204 0 (lv_args 0 [.long (a0), .long (a2)]) [] M 0 0 = some r) : r.1 = some (.long ((ma_204 N a0 a2))) ∧ qa_O r.2 ∧ qa_s r.2 = σ := by
  obtain ⟨lv, el⟩ : ∃ l, l = lv_args 0 [.long (a0), .long (a2)] := ⟨_, rfl⟩
  have g0 : q4_get lv 0 = some (.long (a0)) := by rw [el]; rfl
  have g2 : q4_get lv 2 = some (.long (a2)) := by rw [el]; rfl
  rw [← el] at h
  clear el
  replace h := qa_lload (n := 0) (q := 1) (qa_e rfl h) rfl g0
  replace h := qa_lpush (z := (0 : Int64)) (q := 2) (qa_e rfl h) rfl (by decide)
  replace h := qa_lcmp (q := 3) (qa_e rfl h) rfl
  obtain ⟨lv, M, h, hM, es, g2⟩ : ∃ lv M, q4_run f 204 12 lv [.long ((if (lg_cmp a0 (0 : Int64)) < (0 : Int32) then (-a0) else a0))] M 0 0 = some r ∧ qa_O M ∧ qa_s M = σ ∧ q4_get lv 2 = some (.long (a2)) := by
    by_cases c1 : (lg_cmp a0 (0 : Int64)) < (0 : Int32)
    · replace h := qa_icf (q := 6) (qa_e rfl h) rfl (qa_F_ge c1)
      replace h := qa_lload (n := 0) (q := 7) (qa_e rfl h) rfl g0
      replace h := qa_lneg (q := 8) (qa_e rfl h) rfl
      replace h := qa_goto (q := 12) (qa_e rfl h) rfl
      exact ⟨lv, M, (qa_hl1 c1 h), hM, es, g2⟩
    · replace h := qa_ict (q := 11) (qa_e rfl h) rfl (qa_T_ge c1)
      replace h := qa_lload (n := 0) (q := 12) (qa_e rfl h) rfl g0
      exact ⟨lv, M, (qa_hl0 c1 h), hM, es, g2⟩
  obtain ⟨lv, h, g, T⟩ := qa_lstore (n := 4) (q := 14) (qa_e rfl h) rfl
  replace g2 := T _ _ g2 (by decide) (by decide) (Or.inl (by decide))
  have g4 := g
  clear g T
  replace h := qa_lload (n := 2) (q := 15) (qa_e rfl h) rfl g2
  obtain ⟨lv, h, g, T⟩ := qa_lstore (n := 6) (q := 17) (qa_e rfl h) rfl
  replace g4 := T _ _ g4 (by decide) (by decide) (Or.inl (by decide))
  have g6 := g
  clear g T
  obtain ⟨r2, er2⟩ : ∃ x, x = (qa_wh (fun s => s) (mc_204_p17 N) N ((if (lg_cmp a0 (0 : Int64)) < (0 : Int32) then (-a0) else a0), a2)) := ⟨_, rfl⟩
  have L := md_204_p17 (σ := σ) (F := f) (N := N) (r := r) hN f N hN (Nat.le_refl f) ((if (lg_cmp a0 (0 : Int64)) < (0 : Int32) then (-a0) else a0), a2) _ _ hM es g4 g6 h
  rw [← er2] at L
  obtain ⟨lv, M, h, hM, es, g4⟩ := L
  replace h := qa_lload (n := 4) (q := 44) (qa_e rfl h) rfl g4
  have er := qa_rl (qa_e rfl h)
  subst er
  have e0 : ma_204 N a0 a2 = r2.1 := by exact Eq.trans (qa_ie er2) (rfl)
  rw [e0]
  exact ⟨rfl, hM, es⟩
/-- BuriedBySevensModel, partOf, (JJI)J -/
noncomputable def ma_203 (N : Nat) (a0 : Int64) (a2 : Int64) (a4 : Int32) : Int64 :=
  if (lg_cmp a0 (0 : Int64)) = (0 : Int32) then
    (a4).toInt64
  else
    qa_in ((ma_204 N a0 a2)) fun r2 =>
    (if a4 = (0 : Int32) then (a0 / r2) else (a2 / r2))
theorem mb_203 {f N : Nat} (hN : f ≤ N) {M : q4_M} {r : Option Value × q4_M} {σ : qa_S} {a0 : Int64} {a2 : Int64} {a4 : Int32} (hM : qa_O M) (es : qa_s M = σ) (h : q4_run f 203 0 (lv_args 0 [.long (a0), .long (a2), .int (a4)]) [] M 0 0 = some r) : r.1 = some (.long ((ma_203 N a0 a2 a4))) ∧ qa_O r.2 ∧ qa_s r.2 = σ := by
  obtain ⟨lv, el⟩ : ∃ l, l = lv_args 0 [.long (a0), .long (a2), .int (a4)] := ⟨_, rfl⟩
  have g0 : q4_get lv 0 = some (.long (a0)) := by rw [el]; rfl
  have g2 : q4_get lv 2 = some (.long (a2)) := by rw [el]; rfl
  have g4 : q4_get lv 4 = some (.int (a4)) := by rw [el]; rfl
  rw [← el] at h
  clear el
  replace h := qa_lload (n := 0) (q := 1) (qa_e rfl h) rfl g0
  replace h := qa_lpush (z := (0 : Int64)) (q := 2) (qa_e rfl h) rfl (by decide)
  replace h := qa_lcmp (q := 3) (qa_e rfl h) rfl
  by_cases c1 : (lg_cmp a0 (0 : Int64)) = (0 : Int32)
  · replace h := qa_icf (q := 6) (qa_e rfl h) rfl (qa_F_ne c1)
    replace h := qa_iload (n := 4) (q := 8) (qa_e rfl h) rfl g4
    replace h := qa_i2l (q := 9) (qa_e rfl h) rfl
    have er := qa_rl (qa_e rfl h)
    subst er
    have e0 : ma_203 N a0 a2 a4 = (a4).toInt64 := by exact Eq.trans (if_pos c1) (rfl)
    rw [e0]
    exact ⟨rfl, hM, es⟩
  · replace h := qa_ict (q := 10) (qa_e rfl h) rfl (qa_T_ne c1)
    replace h := qa_lload (n := 0) (q := 11) (qa_e rfl h) rfl g0
    replace h := qa_lload (n := 2) (q := 12) (qa_e rfl h) rfl g2
    obtain ⟨r2, er2⟩ : ∃ x, x = (ma_204 N a0 a2) := ⟨_, rfl⟩
    obtain ⟨M, h, hM, es⟩ := qa_c1 (y := 204) (as := [.long (a0), .long (a2)]) (rest := []) (i := .invokestatic 204) (q := 15) (qa_e rfl h) (Or.inr rfl) rfl rfl (by decide) rfl (fun r hc => mb_204 hN hM es hc)
    rw [← er2] at h
    obtain ⟨lv, h, g, T⟩ := qa_lstore (n := 5) (q := 17) (qa_e rfl h) rfl
    replace g0 := T _ _ g0 (by decide) (by decide) (Or.inl (by decide))
    replace g2 := T _ _ g2 (by decide) (by decide) (Or.inl (by decide))
    replace g4 := T _ _ g4 (by decide) (by decide) (Or.inr rfl)
    have g5 := g
    clear g T
    replace h := qa_iload (n := 4) (q := 19) (qa_e rfl h) rfl g4
    obtain ⟨lv, M, h, hM, es⟩ : ∃ lv M, q4_run f 203 33 lv [.long ((if a4 = (0 : Int32) then (a0 / r2) else (a2 / r2)))] M 0 0 = some r ∧ qa_O M ∧ qa_s M = σ := by
      by_cases c3 : a4 = (0 : Int32)
      · replace h := qa_icf (q := 22) (qa_e rfl h) rfl (qa_F_ne c3)
        replace h := qa_lload (n := 0) (q := 23) (qa_e rfl h) rfl g0
        replace h := qa_lload (n := 5) (q := 25) (qa_e rfl h) rfl g5
        replace h := qa_ldiv (q := 26) (qa_e rfl h) rfl
        replace h := qa_goto (q := 33) (qa_e rfl h) rfl
        exact ⟨lv, M, (qa_hl1 c3 h), hM, es⟩
      · replace h := qa_ict (q := 29) (qa_e rfl h) rfl (qa_T_ne c3)
        replace h := qa_lload (n := 2) (q := 30) (qa_e rfl h) rfl g2
        replace h := qa_lload (n := 5) (q := 32) (qa_e rfl h) rfl g5
        replace h := qa_ldiv (q := 33) (qa_e rfl h) rfl
        exact ⟨lv, M, (qa_hl0 c3 h), hM, es⟩
    have er := qa_rl (qa_e rfl h)
    subst er
    have e0 : ma_203 N a0 a2 a4 = (if a4 = (0 : Int32) then (a0 / r2) else (a2 / r2)) := by exact Eq.trans (if_neg c1) (Eq.trans (qa_ie er2) (rfl))
    rw [e0]
    exact ⟨rfl, hM, es⟩
/-- BuriedBySevensModel, in, (II)J -/
noncomputable def ma_200_99 (N : Nat) (a1 : Int32) (a2 : Int32) (σ : qa_S) : Int64 × qa_S :=
  qa_in (qa_u σ 99 9 (0 : Int32)) fun m1 =>
  if (if (ma_163_99 a1 m1) = (0 : Int32) then (-1 : Int32) else (ma_201 (0 : Int32) a2 (1 : Int32))) < (0 : Int32) then
    qa_in ((ma_152_99 (if (ma_163_99 a1 m1) = (0 : Int32) then (-1 : Int32) else (ma_201 (0 : Int32) a2 (1 : Int32))) m1)) fun r4 =>
    (((4000000000000000000 : Int64) - (r4.1).toInt64), r4.2)
  else
    qa_in ((ma_193_99 N m1)) fun r5 =>
    qa_in ((ma_202_99 N (ma_190_99 r5.2) a1 r5.2)) fun r7 =>
    qa_in ((ma_203 N (r7.1).toInt64 (r5.1).toInt64 a2)) fun r8 =>
    qa_in ((if r5.1 = (0 : Int32) then r5.2 else r7.2)) fun m9 =>
    ((if r5.1 = (0 : Int32) then (a2).toInt64 else r8), m9)
theorem mb_200_99 {f N : Nat} (hN : f ≤ N) {M : q4_M} {r : Option Value × q4_M} {σ : qa_S} {a1 : Int32} {a2 : Int32} (hM : qa_O M) (es : qa_s M = σ) (h : q4_run f 200 0 (lv_args 0 [.ref 99, .int (a1), .int (a2)]) [] M 0 0 = some r) : r.1 = some (.long ((ma_200_99 N a1 a2 σ).1)) ∧ qa_O r.2 ∧ qa_s r.2 = (ma_200_99 N a1 a2 σ).2 := by
  obtain ⟨lv, el⟩ : ∃ l, l = lv_args 0 [.ref 99, .int (a1), .int (a2)] := ⟨_, rfl⟩
  have g0 : q4_get lv 0 = some (.ref 99) := by rw [el]; rfl
  have g1 : q4_get lv 1 = some (.int (a1)) := by rw [el]; rfl
  have g2 : q4_get lv 2 = some (.int (a2)) := by rw [el]; rfl
  rw [← el] at h
  clear el
  replace h := qa_aload (n := 0) (q := 1) (qa_e rfl h) rfl g0
  replace h := qa_push (z := (0 : Int32)) (q := 2) (qa_e rfl h) rfl (by decide)
  obtain ⟨m1, em1⟩ : ∃ x, x = qa_u σ 99 9 (0 : Int32) := ⟨_, rfl⟩
  obtain ⟨M, h, hM, es⟩ := qa_pf (j := 9) (q := 5) (qa_e rfl h) rfl hM es rfl (by decide)
  rw [← em1] at es
  replace h := qa_aload (n := 0) (q := 6) (qa_e rfl h) rfl g0
  replace h := qa_iload (n := 1) (q := 7) (qa_e rfl h) rfl g1
  obtain ⟨M, h, hM, es⟩ := qa_c1 (y := 163) (as := [.ref 99, .int (a1)]) (rest := []) (i := .invokevirtual 163) (q := 10) (qa_e rfl h) (Or.inl rfl) rfl rfl (by decide) rfl (fun r hc => mb_163_99 hM es hc)
  obtain ⟨lv, M, h, hM, es, g0, g1, g2⟩ : ∃ lv M, q4_run f 200 23 lv [.int ((if (ma_163_99 a1 m1) = (0 : Int32) then (-1 : Int32) else (ma_201 (0 : Int32) a2 (1 : Int32))))] M 0 0 = some r ∧ qa_O M ∧ qa_s M = m1 ∧ q4_get lv 0 = some (.ref 99) ∧ q4_get lv 1 = some (.int (a1)) ∧ q4_get lv 2 = some (.int (a2)) := by
    by_cases c2 : (ma_163_99 a1 m1) = (0 : Int32)
    · replace h := qa_ict (q := 22) (qa_e rfl h) rfl (qa_T_eq c2)
      replace h := qa_push (z := (-1 : Int32)) (q := 23) (qa_e rfl h) rfl (by decide)
      exact ⟨lv, M, (qa_hi1 c2 h), hM, es, g0, g1, g2⟩
    · replace h := qa_icf (q := 13) (qa_e rfl h) rfl (qa_F_eq c2)
      replace h := qa_push (z := (0 : Int32)) (q := 14) (qa_e rfl h) rfl (by decide)
      replace h := qa_iload (n := 2) (q := 15) (qa_e rfl h) rfl g2
      replace h := qa_push (z := (1 : Int32)) (q := 16) (qa_e rfl h) rfl (by decide)
      obtain ⟨M, h, hM, es⟩ := qa_c1 (y := 201) (as := [.int ((0 : Int32)), .int (a2), .int ((1 : Int32))]) (rest := []) (i := .invokestatic 201) (q := 19) (qa_e rfl h) (Or.inr rfl) rfl rfl (by decide) rfl (fun r hc => mb_201 hM es hc)
      replace h := qa_goto (q := 23) (qa_e rfl h) rfl
      exact ⟨lv, M, (qa_hi0 c2 h), hM, es, g0, g1, g2⟩
  obtain ⟨lv, h, g, T⟩ := qa_istore (n := 3) (q := 24) (qa_e rfl h) rfl
  replace g0 := T _ _ g0 (by decide) (Or.inr rfl)
  replace g1 := T _ _ g1 (by decide) (Or.inr rfl)
  replace g2 := T _ _ g2 (by decide) (Or.inr rfl)
  have g3 := g
  clear g T
  replace h := qa_iload (n := 3) (q := 25) (qa_e rfl h) rfl g3
  by_cases c3 : (if (ma_163_99 a1 m1) = (0 : Int32) then (-1 : Int32) else (ma_201 (0 : Int32) a2 (1 : Int32))) < (0 : Int32)
  · replace h := qa_icf (q := 28) (qa_e rfl h) rfl (qa_F_ge c3)
    replace h := qa_lpush (z := (4000000000000000000 : Int64)) (q := 31) (qa_e rfl h) rfl (by decide)
    replace h := qa_aload (n := 0) (q := 32) (qa_e rfl h) rfl g0
    replace h := qa_iload (n := 3) (q := 33) (qa_e rfl h) rfl g3
    obtain ⟨r4, er4⟩ : ∃ x, x = (ma_152_99 (if (ma_163_99 a1 m1) = (0 : Int32) then (-1 : Int32) else (ma_201 (0 : Int32) a2 (1 : Int32))) m1) := ⟨_, rfl⟩
    obtain ⟨M, h, hM, es⟩ := qa_c1 (y := 152) (as := [.ref 99, .int ((if (ma_163_99 a1 m1) = (0 : Int32) then (-1 : Int32) else (ma_201 (0 : Int32) a2 (1 : Int32))))]) (rest := [.long ((4000000000000000000 : Int64))]) (i := .invokevirtual 152) (q := 36) (qa_e rfl h) (Or.inl rfl) rfl rfl (by decide) rfl (fun r hc => mb_152_99 hM es hc)
    rw [← er4] at h es
    replace h := qa_i2l (q := 37) (qa_e rfl h) rfl
    replace h := qa_lsub (q := 38) (qa_e rfl h) rfl
    have er := qa_rl (qa_e rfl h)
    subst er
    have e0 : ma_200_99 N a1 a2 σ = (((4000000000000000000 : Int64) - (r4.1).toInt64), r4.2) := by exact Eq.trans (qa_ie em1) (Eq.trans (if_pos c3) (Eq.trans (qa_ie er4) (rfl)))
    rw [e0]
    exact ⟨rfl, hM, es⟩
  · replace h := qa_ict (q := 39) (qa_e rfl h) rfl (qa_T_ge c3)
    replace h := qa_aload (n := 0) (q := 40) (qa_e rfl h) rfl g0
    obtain ⟨r5, er5⟩ : ∃ x, x = (ma_193_99 N m1) := ⟨_, rfl⟩
    obtain ⟨M, h, hM, es⟩ := qa_c1 (y := 193) (as := [.ref 99]) (rest := []) (i := .invokevirtual 193) (q := 43) (qa_e rfl h) (Or.inl rfl) rfl rfl (by decide) rfl (fun r hc => mb_193_99 hN hM es hc)
    rw [← er5] at h es
    obtain ⟨lv, h, g, T⟩ := qa_istore (n := 4) (q := 45) (qa_e rfl h) rfl
    replace g0 := T _ _ g0 (by decide) (Or.inr rfl)
    replace g1 := T _ _ g1 (by decide) (Or.inr rfl)
    replace g2 := T _ _ g2 (by decide) (Or.inr rfl)
    have g4 := g
    clear g T
    replace h := qa_iload (n := 4) (q := 47) (qa_e rfl h) rfl g4
    obtain ⟨r7, er7⟩ : ∃ x, x = (ma_202_99 N (ma_190_99 r5.2) a1 r5.2) := ⟨_, rfl⟩
    obtain ⟨r8, er8⟩ : ∃ x, x = (ma_203 N (r7.1).toInt64 (r5.1).toInt64 a2) := ⟨_, rfl⟩
    obtain ⟨m9, em9⟩ : ∃ x, x = (if r5.1 = (0 : Int32) then r5.2 else r7.2) := ⟨_, rfl⟩
    obtain ⟨lv, M, h, hM, es⟩ : ∃ lv M, q4_run f 200 72 lv [.long ((if r5.1 = (0 : Int32) then (a2).toInt64 else r8))] M 0 0 = some r ∧ qa_O M ∧ qa_s M = m9 := by
      by_cases c6 : r5.1 = (0 : Int32)
      · replace h := qa_icf (q := 50) (qa_e rfl h) rfl (qa_F_ne c6)
        replace h := qa_iload (n := 2) (q := 51) (qa_e rfl h) rfl g2
        replace h := qa_i2l (q := 52) (qa_e rfl h) rfl
        replace h := qa_goto (q := 72) (qa_e rfl h) rfl
        exact ⟨lv, M, (qa_hl1 c6 h), hM, ((qa_ms1 c6 es).trans em9.symm)⟩
      · replace h := qa_ict (q := 55) (qa_e rfl h) rfl (qa_T_ne c6)
        replace h := qa_aload (n := 0) (q := 56) (qa_e rfl h) rfl g0
        replace h := qa_aload (n := 0) (q := 57) (qa_e rfl h) rfl g0
        obtain ⟨M, h, hM, es⟩ := qa_c1 (y := 190) (as := [.ref 99]) (rest := [.ref 99]) (i := .invokevirtual 190) (q := 60) (qa_e rfl h) (Or.inl rfl) rfl rfl (by decide) rfl (fun r hc => mb_190_99 hM es hc)
        replace h := qa_iload (n := 1) (q := 61) (qa_e rfl h) rfl g1
        obtain ⟨M, h, hM, es⟩ := qa_c1 (y := 202) (as := [.ref 99, .int ((ma_190_99 r5.2)), .int (a1)]) (rest := []) (i := .invokevirtual 202) (q := 64) (qa_e rfl h) (Or.inl rfl) rfl rfl (by decide) rfl (fun r hc => mb_202_99 hN hM es hc)
        rw [← er7] at h es
        replace h := qa_i2l (q := 65) (qa_e rfl h) rfl
        replace h := qa_iload (n := 4) (q := 67) (qa_e rfl h) rfl g4
        replace h := qa_i2l (q := 68) (qa_e rfl h) rfl
        replace h := qa_iload (n := 2) (q := 69) (qa_e rfl h) rfl g2
        obtain ⟨M, h, hM, es⟩ := qa_c1 (y := 203) (as := [.long ((r7.1).toInt64), .long ((r5.1).toInt64), .int (a2)]) (rest := []) (i := .invokestatic 203) (q := 72) (qa_e rfl h) (Or.inr rfl) rfl rfl (by decide) rfl (fun r hc => mb_203 hN hM es hc)
        rw [← er8] at h
        exact ⟨lv, M, (qa_hl0 c6 h), hM, ((qa_ms0 c6 es).trans em9.symm)⟩
    have er := qa_rl (qa_e rfl h)
    subst er
    have e0 : ma_200_99 N a1 a2 σ = ((if r5.1 = (0 : Int32) then (a2).toInt64 else r8), m9) := by exact Eq.trans (qa_ie em1) (Eq.trans (if_neg c3) (Eq.trans (qa_ie er5) (Eq.trans (qa_ie er7) (Eq.trans (qa_ie er8) (Eq.trans (qa_ie em9) (rfl))))))
    rw [e0]
    exact ⟨rfl, hM, es⟩
noncomputable def mc_205_99_p32 (N : Nat) (l1 : Int32) (l2 : Int32) (s : Int32 × Int32 × qa_S) : (Int32 × Int32 × qa_S) ⊕ (Int32 × Int32 × qa_S) :=
  if s.1 < (s.2.2 99 0) then
    if (0 : Int32) < l2 then
      qa_in ((ma_202_99 N (ma_190_99 s.2.2) s.1 s.2.2)) fun r3 =>
      .inl ((s.1 + (1 : Int32)), (s.2.1 ||| (if r3.1 = (if l1 = (0 : Int32) then l2 else (0 : Int32)) then ((1 : Int32) <<< (s.1 &&& 31)) else (0 : Int32))), r3.2)
    else
      .inr (s.1, s.2.1, s.2.2)
  else
    .inr (s.1, s.2.1, s.2.2)
theorem md_205_99_p32 {N F : Nat} {r : Option Value × q4_M} {l1 : Int32} {l2 : Int32} (hN : F ≤ N) : ∀ f n, f ≤ n → f ≤ F → ∀ (s : Int32 × Int32 × qa_S) (lv : List (Nat × Value)) (M : q4_M), qa_O M → qa_s M = s.2.2 → q4_get lv 0 = some (.ref 99) → q4_get lv 1 = some (.int (l1)) → q4_get lv 2 = some (.int (l2)) → q4_get lv 3 = some (.int (s.2.1)) → q4_get lv 4 = some (.int (s.1)) → q4_run f 205 32 lv [] M 0 0 = some r → ∃ lv M, q4_run F 205 84 lv [] M 0 0 = some r ∧ qa_O M ∧ qa_s M = (qa_wh (fun s => s) (mc_205_99_p32 N l1 l2) n s).2.2 ∧ q4_get lv 3 = some (.int ((qa_wh (fun s => s) (mc_205_99_p32 N l1 l2) n s).2.1)) := by
  intro f
  induction f with
  | zero => intro n _ _ s lv M hM es _ _ _ _ _ h; cases h
  | succ f ih =>
    intro n hn hF s lv M hM es g0 g1 g2 g3 g4 h
    obtain ⟨n, rfl⟩ : ∃ n1, n = n1 + 1 := ⟨n - 1, by omega⟩
    replace hn : f ≤ n := Nat.le_of_succ_le_succ hn
    have hN := Nat.le_trans (Nat.le_of_succ_le hF) hN
    replace h := qa_iload (n := 4) (q := 34) (qa_d rfl h) rfl g4
    replace h := qa_aload (n := 0) (q := 35) (qa_e rfl h) rfl g0
    replace h := qa_gi (j := 0) (q := 38) (qa_e rfl h) rfl hM es rfl (by decide)
    by_cases c1 : s.1 < (s.2.2 99 0)
    · replace h := qa_iff (q := 41) (qa_e rfl h) rfl (qa_F_ge c1)
      replace h := qa_iload (n := 2) (q := 42) (qa_e rfl h) rfl g2
      by_cases c2 : (0 : Int32) < l2
      · replace h := qa_icf (q := 45) (qa_e rfl h) rfl (qa_F_le c2)
        replace h := qa_iload (n := 3) (q := 46) (qa_e rfl h) rfl g3
        replace h := qa_aload (n := 0) (q := 47) (qa_e rfl h) rfl g0
        replace h := qa_aload (n := 0) (q := 48) (qa_e rfl h) rfl g0
        obtain ⟨M, h, hM, es⟩ := qa_c1 (y := 190) (as := [.ref 99]) (rest := [.ref 99, .int (s.2.1)]) (i := .invokevirtual 190) (q := 51) (qa_e rfl h) (Or.inl rfl) rfl rfl (by decide) rfl (fun r hc => mb_190_99 hM es hc)
        replace h := qa_iload (n := 4) (q := 53) (qa_e rfl h) rfl g4
        obtain ⟨r3, er3⟩ : ∃ x, x = (ma_202_99 N (ma_190_99 s.2.2) s.1 s.2.2) := ⟨_, rfl⟩
        obtain ⟨M, h, hM, es⟩ := qa_c1 (y := 202) (as := [.ref 99, .int ((ma_190_99 s.2.2)), .int (s.1)]) (rest := [.int (s.2.1)]) (i := .invokevirtual 202) (q := 56) (qa_e rfl h) (Or.inl rfl) rfl rfl (by decide) rfl (fun r hc => mb_202_99 hN hM es hc)
        rw [← er3] at h es
        replace h := qa_iload (n := 1) (q := 57) (qa_e rfl h) rfl g1
        obtain ⟨lv, M, h, hM, es, g0, g1, g2, g4⟩ : ∃ lv M, q4_run f 205 65 lv [.int ((if l1 = (0 : Int32) then l2 else (0 : Int32))), .int (r3.1), .int (s.2.1)] M 0 0 = some r ∧ qa_O M ∧ qa_s M = r3.2 ∧ q4_get lv 0 = some (.ref 99) ∧ q4_get lv 1 = some (.int (l1)) ∧ q4_get lv 2 = some (.int (l2)) ∧ q4_get lv 4 = some (.int (s.1)) := by
          by_cases c4 : l1 = (0 : Int32)
          · replace h := qa_icf (q := 60) (qa_e rfl h) rfl (qa_F_ne c4)
            replace h := qa_iload (n := 2) (q := 61) (qa_e rfl h) rfl g2
            replace h := qa_goto (q := 65) (qa_e rfl h) rfl
            exact ⟨lv, M, (qa_hi1 c4 h), hM, es, g0, g1, g2, g4⟩
          · replace h := qa_ict (q := 64) (qa_e rfl h) rfl (qa_T_ne c4)
            replace h := qa_push (z := (0 : Int32)) (q := 65) (qa_e rfl h) rfl (by decide)
            exact ⟨lv, M, (qa_hi0 c4 h), hM, es, g0, g1, g2, g4⟩
        obtain ⟨lv, M, h, hM, es, g0, g1, g2, g4⟩ : ∃ lv M, q4_run f 205 76 lv [.int ((if r3.1 = (if l1 = (0 : Int32) then l2 else (0 : Int32)) then ((1 : Int32) <<< (s.1 &&& 31)) else (0 : Int32))), .int (s.2.1)] M 0 0 = some r ∧ qa_O M ∧ qa_s M = r3.2 ∧ q4_get lv 0 = some (.ref 99) ∧ q4_get lv 1 = some (.int (l1)) ∧ q4_get lv 2 = some (.int (l2)) ∧ q4_get lv 4 = some (.int (s.1)) := by
          by_cases c5 : r3.1 = (if l1 = (0 : Int32) then l2 else (0 : Int32))
          · replace h := qa_iff (q := 68) (qa_e rfl h) rfl (qa_F_ne c5)
            replace h := qa_push (z := (1 : Int32)) (q := 69) (qa_e rfl h) rfl (by decide)
            replace h := qa_iload (n := 4) (q := 71) (qa_e rfl h) rfl g4
            replace h := qa_ishl (q := 72) (qa_e rfl h) rfl
            replace h := qa_goto (q := 76) (qa_e rfl h) rfl
            exact ⟨lv, M, (qa_hi1 c5 h), hM, es, g0, g1, g2, g4⟩
          · replace h := qa_ift (q := 75) (qa_e rfl h) rfl (qa_T_ne c5)
            replace h := qa_push (z := (0 : Int32)) (q := 76) (qa_e rfl h) rfl (by decide)
            exact ⟨lv, M, (qa_hi0 c5 h), hM, es, g0, g1, g2, g4⟩
        replace h := qa_ior (q := 77) (qa_e rfl h) rfl
        obtain ⟨lv, h, g, T⟩ := qa_istore (n := 3) (q := 78) (qa_e rfl h) rfl
        replace g0 := T _ _ g0 (by decide) (Or.inr rfl)
        replace g1 := T _ _ g1 (by decide) (Or.inr rfl)
        replace g2 := T _ _ g2 (by decide) (Or.inr rfl)
        replace g4 := T _ _ g4 (by decide) (Or.inr rfl)
        have g3 := g
        clear g T
        obtain ⟨lv, h, g, T⟩ := qa_iinc (n := 4) (z := (1 : Int32)) (q := 81) (qa_e rfl h) rfl (by decide) g4
        replace g0 := T _ _ g0 (by decide) (Or.inr rfl)
        replace g1 := T _ _ g1 (by decide) (Or.inr rfl)
        replace g2 := T _ _ g2 (by decide) (Or.inr rfl)
        replace g3 := T _ _ g3 (by decide) (Or.inr rfl)
        replace g4 := g
        clear g T
        replace h := qa_goto (q := 32) (qa_e rfl h) rfl
        have e0 : mc_205_99_p32 N l1 l2 s = .inl ((s.1 + (1 : Int32)), (s.2.1 ||| (if r3.1 = (if l1 = (0 : Int32) then l2 else (0 : Int32)) then ((1 : Int32) <<< (s.1 &&& 31)) else (0 : Int32))), r3.2) := by exact Eq.trans (if_pos c1) (Eq.trans (if_pos c2) (Eq.trans (qa_ie er3) (rfl)))
        rw [qa_whl e0]
        exact ih n hn (Nat.le_of_succ_le hF) ((s.1 + (1 : Int32)), (s.2.1 ||| (if r3.1 = (if l1 = (0 : Int32) then l2 else (0 : Int32)) then ((1 : Int32) <<< (s.1 &&& 31)) else (0 : Int32))), r3.2) _ _ hM es g0 g1 g2 g3 g4 h
      · replace h := qa_ict (q := 84) (qa_e rfl h) rfl (qa_T_le c2)
        have e0 : mc_205_99_p32 N l1 l2 s = .inr (s.1, s.2.1, s.2.2) := by exact Eq.trans (if_pos c1) (Eq.trans (if_neg c2) (rfl))
        rw [qa_whr e0]
        exact ⟨_, _, q61_mono f F _ _ _ _ _ _ _ _ (Nat.le_of_succ_le hF) h, hM, es, g3⟩
    · replace h := qa_ift (q := 84) (qa_e rfl h) rfl (qa_T_ge c1)
      have e0 : mc_205_99_p32 N l1 l2 s = .inr (s.1, s.2.1, s.2.2) := by exact Eq.trans (if_neg c1) (rfl)
      rw [qa_whr e0]
      exact ⟨_, _, q61_mono f F _ _ _ _ _ _ _ _ (Nat.le_of_succ_le hF) h, hM, es, g3⟩
/-- BuriedBySevensModel, sure, (I)I -/
noncomputable def ma_205_99 (N : Nat) (a1 : Int32) (σ : qa_S) : Int32 × qa_S :=
  qa_in (qa_u σ 99 9 (0 : Int32)) fun m1 =>
  if (ma_158 (a1).toInt64 (0 : Int64) (1 : Int64)) = (0 : Int32) then
    qa_in ((ma_152_99 (-2 : Int32) m1)) fun r3 =>
    (r3.1, r3.2)
  else
    qa_in ((ma_193_99 N m1)) fun r4 =>
    qa_in ((qa_wh (fun s => s) (mc_205_99_p32 N a1 r4.1) N ((0 : Int32), (0 : Int32), r4.2))) fun r5 =>
    (r5.2.1, r5.2.2)
theorem mb_205_99 {f N : Nat} (hN : f ≤ N) {M : q4_M} {r : Option Value × q4_M} {σ : qa_S} {a1 : Int32} (hM : qa_O M) (es : qa_s M = σ) (h : q4_run f 205 0 (lv_args 0 [.ref 99, .int (a1)]) [] M 0 0 = some r) : r.1 = some (.int ((ma_205_99 N a1 σ).1)) ∧ qa_O r.2 ∧ qa_s r.2 = (ma_205_99 N a1 σ).2 := by
  obtain ⟨lv, el⟩ : ∃ l, l = lv_args 0 [.ref 99, .int (a1)] := ⟨_, rfl⟩
  have g0 : q4_get lv 0 = some (.ref 99) := by rw [el]; rfl
  have g1 : q4_get lv 1 = some (.int (a1)) := by rw [el]; rfl
  rw [← el] at h
  clear el
  replace h := qa_aload (n := 0) (q := 1) (qa_e rfl h) rfl g0
  replace h := qa_push (z := (0 : Int32)) (q := 2) (qa_e rfl h) rfl (by decide)
  obtain ⟨m1, em1⟩ : ∃ x, x = qa_u σ 99 9 (0 : Int32) := ⟨_, rfl⟩
  obtain ⟨M, h, hM, es⟩ := qa_pf (j := 9) (q := 5) (qa_e rfl h) rfl hM es rfl (by decide)
  rw [← em1] at es
  replace h := qa_iload (n := 1) (q := 6) (qa_e rfl h) rfl g1
  replace h := qa_i2l (q := 7) (qa_e rfl h) rfl
  replace h := qa_lpush (z := (0 : Int64)) (q := 8) (qa_e rfl h) rfl (by decide)
  replace h := qa_lpush (z := (1 : Int64)) (q := 9) (qa_e rfl h) rfl (by decide)
  obtain ⟨M, h, hM, es⟩ := qa_c1 (y := 158) (as := [.long ((a1).toInt64), .long ((0 : Int64)), .long ((1 : Int64))]) (rest := []) (i := .invokestatic 158) (q := 12) (qa_e rfl h) (Or.inr rfl) rfl rfl (by decide) rfl (fun r hc => mb_158 hM es hc)
  by_cases c2 : (ma_158 (a1).toInt64 (0 : Int64) (1 : Int64)) = (0 : Int32)
  · replace h := qa_icf (q := 15) (qa_e rfl h) rfl (qa_F_ne c2)
    replace h := qa_aload (n := 0) (q := 16) (qa_e rfl h) rfl g0
    replace h := qa_push (z := (-2 : Int32)) (q := 18) (qa_e rfl h) rfl (by decide)
    obtain ⟨r3, er3⟩ : ∃ x, x = (ma_152_99 (-2 : Int32) m1) := ⟨_, rfl⟩
    obtain ⟨M, h, hM, es⟩ := qa_c1 (y := 152) (as := [.ref 99, .int ((-2 : Int32))]) (rest := []) (i := .invokevirtual 152) (q := 21) (qa_e rfl h) (Or.inl rfl) rfl rfl (by decide) rfl (fun r hc => mb_152_99 hM es hc)
    rw [← er3] at h es
    have er := qa_ri (qa_e rfl h)
    subst er
    have e0 : ma_205_99 N a1 σ = (r3.1, r3.2) := by exact Eq.trans (qa_ie em1) (Eq.trans (if_pos c2) (Eq.trans (qa_ie er3) (rfl)))
    rw [e0]
    exact ⟨rfl, hM, es⟩
  · replace h := qa_ict (q := 22) (qa_e rfl h) rfl (qa_T_ne c2)
    replace h := qa_aload (n := 0) (q := 23) (qa_e rfl h) rfl g0
    obtain ⟨r4, er4⟩ : ∃ x, x = (ma_193_99 N m1) := ⟨_, rfl⟩
    obtain ⟨M, h, hM, es⟩ := qa_c1 (y := 193) (as := [.ref 99]) (rest := []) (i := .invokevirtual 193) (q := 26) (qa_e rfl h) (Or.inl rfl) rfl rfl (by decide) rfl (fun r hc => mb_193_99 hN hM es hc)
    rw [← er4] at h es
    obtain ⟨lv, h, g, T⟩ := qa_istore (n := 2) (q := 27) (qa_e rfl h) rfl
    replace g0 := T _ _ g0 (by decide) (Or.inr rfl)
    replace g1 := T _ _ g1 (by decide) (Or.inr rfl)
    have g2 := g
    clear g T
    replace h := qa_push (z := (0 : Int32)) (q := 28) (qa_e rfl h) rfl (by decide)
    obtain ⟨lv, h, g, T⟩ := qa_istore (n := 3) (q := 29) (qa_e rfl h) rfl
    replace g0 := T _ _ g0 (by decide) (Or.inr rfl)
    replace g1 := T _ _ g1 (by decide) (Or.inr rfl)
    replace g2 := T _ _ g2 (by decide) (Or.inr rfl)
    have g3 := g
    clear g T
    replace h := qa_push (z := (0 : Int32)) (q := 30) (qa_e rfl h) rfl (by decide)
    obtain ⟨lv, h, g, T⟩ := qa_istore (n := 4) (q := 32) (qa_e rfl h) rfl
    replace g0 := T _ _ g0 (by decide) (Or.inr rfl)
    replace g1 := T _ _ g1 (by decide) (Or.inr rfl)
    replace g2 := T _ _ g2 (by decide) (Or.inr rfl)
    replace g3 := T _ _ g3 (by decide) (Or.inr rfl)
    have g4 := g
    clear g T
    obtain ⟨r5, er5⟩ : ∃ x, x = (qa_wh (fun s => s) (mc_205_99_p32 N a1 r4.1) N ((0 : Int32), (0 : Int32), r4.2)) := ⟨_, rfl⟩
    have L := md_205_99_p32 (l1 := a1) (l2 := r4.1) (F := f) (N := N) (r := r) hN f N hN (Nat.le_refl f) ((0 : Int32), (0 : Int32), r4.2) _ _ hM es g0 g1 g2 g3 g4 h
    rw [← er5] at L
    obtain ⟨lv, M, h, hM, es, g3⟩ := L
    replace h := qa_iload (n := 3) (q := 85) (qa_e rfl h) rfl g3
    have er := qa_ri (qa_e rfl h)
    subst er
    have e0 : ma_205_99 N a1 σ = (r5.2.1, r5.2.2) := by exact Eq.trans (qa_ie em1) (Eq.trans (if_neg c2) (Eq.trans (qa_ie er4) (Eq.trans (qa_ie er5) (rfl))))
    rw [e0]
    exact ⟨rfl, hM, es⟩
noncomputable def mc_206_99_p35 (N : Nat) (l1 : Int32) (σ : qa_S) (s : Int32 × Int32 × Int32) : (Int32 × Int32 × Int32) ⊕ (Int32 × Int32 × Int32) :=
  if s.1 < (σ 99 5) then
    qa_in ((ma_199_99 N ((1 : Int32) <<< (s.1 &&& 31)) σ)) fun r2 =>
    .inl ((s.1 + (1 : Int32)), (if (if s.2.1 < (0 : Int32) then (1 : Int32) else (if r2 < s.2.2 then (1 : Int32) else (0 : Int32))) = (0 : Int32) then s.2.1 else s.1), (if (if s.2.1 < (0 : Int32) then (1 : Int32) else (if r2 < s.2.2 then (1 : Int32) else (0 : Int32))) = (0 : Int32) then s.2.2 else r2))
  else
    .inr (s.1, s.2.1, s.2.2)
theorem md_206_99_p35 {N F : Nat} {r : Option Value × q4_M} {l1 : Int32} {σ : qa_S} (hN : F ≤ N) : ∀ f n, f ≤ n → f ≤ F → ∀ (s : Int32 × Int32 × Int32) (lv : List (Nat × Value)) (M : q4_M), qa_O M → qa_s M = σ → q4_get lv 0 = some (.ref 99) → q4_get lv 1 = some (.int (l1)) → q4_get lv 2 = some (.int (s.2.1)) → q4_get lv 3 = some (.int (s.2.2)) → q4_get lv 4 = some (.int (s.1)) → q4_run f 206 35 lv [] M 0 0 = some r → ∃ lv M, q4_run F 206 101 lv [] M 0 0 = some r ∧ qa_O M ∧ qa_s M = σ ∧ q4_get lv 1 = some (.int (l1)) ∧ q4_get lv 2 = some (.int ((qa_wh (fun s => s) (mc_206_99_p35 N l1 σ) n s).2.1)) ∧ q4_get lv 3 = some (.int ((qa_wh (fun s => s) (mc_206_99_p35 N l1 σ) n s).2.2)) := by
  intro f
  induction f with
  | zero => intro n _ _ s lv M hM es _ _ _ _ _ h; cases h
  | succ f ih =>
    intro n hn hF s lv M hM es g0 g1 g2 g3 g4 h
    obtain ⟨n, rfl⟩ : ∃ n1, n = n1 + 1 := ⟨n - 1, by omega⟩
    replace hn : f ≤ n := Nat.le_of_succ_le_succ hn
    have hN := Nat.le_trans (Nat.le_of_succ_le hF) hN
    replace h := qa_iload (n := 4) (q := 37) (qa_d rfl h) rfl g4
    replace h := qa_aload (n := 0) (q := 38) (qa_e rfl h) rfl g0
    replace h := qa_gi (j := 5) (q := 41) (qa_e rfl h) rfl hM es rfl (by decide)
    by_cases c1 : s.1 < (σ 99 5)
    · replace h := qa_iff (q := 44) (qa_e rfl h) rfl (qa_F_ge c1)
      replace h := qa_aload (n := 0) (q := 45) (qa_e rfl h) rfl g0
      replace h := qa_push (z := (1 : Int32)) (q := 46) (qa_e rfl h) rfl (by decide)
      replace h := qa_iload (n := 4) (q := 48) (qa_e rfl h) rfl g4
      replace h := qa_ishl (q := 49) (qa_e rfl h) rfl
      obtain ⟨r2, er2⟩ : ∃ x, x = (ma_199_99 N ((1 : Int32) <<< (s.1 &&& 31)) σ) := ⟨_, rfl⟩
      obtain ⟨M, h, hM, es⟩ := qa_c1 (y := 199) (as := [.ref 99, .int (((1 : Int32) <<< (s.1 &&& 31)))]) (rest := []) (i := .invokevirtual 199) (q := 52) (qa_e rfl h) (Or.inl rfl) rfl rfl (by decide) rfl (fun r hc => mb_199_99 hN hM es hc)
      rw [← er2] at h
      obtain ⟨lv, h, g, T⟩ := qa_istore (n := 5) (q := 54) (qa_e rfl h) rfl
      replace g0 := T _ _ g0 (by decide) (Or.inr rfl)
      replace g1 := T _ _ g1 (by decide) (Or.inr rfl)
      replace g2 := T _ _ g2 (by decide) (Or.inr rfl)
      replace g3 := T _ _ g3 (by decide) (Or.inr rfl)
      replace g4 := T _ _ g4 (by decide) (Or.inr rfl)
      have g5 := g
      clear g T
      replace h := qa_iload (n := 2) (q := 55) (qa_e rfl h) rfl g2
      obtain ⟨lv, M, h, hM, es, g0, g1, g2, g3, g4, g5⟩ : ∃ lv M, q4_run f 206 69 lv [.int ((if s.2.1 < (0 : Int32) then (1 : Int32) else (if r2 < s.2.2 then (1 : Int32) else (0 : Int32))))] M 0 0 = some r ∧ qa_O M ∧ qa_s M = σ ∧ q4_get lv 0 = some (.ref 99) ∧ q4_get lv 1 = some (.int (l1)) ∧ q4_get lv 2 = some (.int (s.2.1)) ∧ q4_get lv 3 = some (.int (s.2.2)) ∧ q4_get lv 4 = some (.int (s.1)) ∧ q4_get lv 5 = some (.int (r2)) := by
        by_cases c3 : s.2.1 < (0 : Int32)
        · replace h := qa_ict (q := 64) (qa_e rfl h) rfl (qa_T_lt c3)
          replace h := qa_push (z := (1 : Int32)) (q := 65) (qa_e rfl h) rfl (by decide)
          replace h := qa_goto (q := 69) (qa_e rfl h) rfl
          exact ⟨lv, M, (qa_hi1 c3 h), hM, es, g0, g1, g2, g3, g4, g5⟩
        · replace h := qa_icf (q := 58) (qa_e rfl h) rfl (qa_F_lt c3)
          replace h := qa_iload (n := 5) (q := 60) (qa_e rfl h) rfl g5
          replace h := qa_iload (n := 3) (q := 61) (qa_e rfl h) rfl g3
          obtain ⟨lv, M, h, hM, es, g0, g1, g2, g3, g4, g5⟩ : ∃ lv M, q4_run f 206 69 lv [.int ((if r2 < s.2.2 then (1 : Int32) else (0 : Int32)))] M 0 0 = some r ∧ qa_O M ∧ qa_s M = σ ∧ q4_get lv 0 = some (.ref 99) ∧ q4_get lv 1 = some (.int (l1)) ∧ q4_get lv 2 = some (.int (s.2.1)) ∧ q4_get lv 3 = some (.int (s.2.2)) ∧ q4_get lv 4 = some (.int (s.1)) ∧ q4_get lv 5 = some (.int (r2)) := by
            by_cases c4 : r2 < s.2.2
            · replace h := qa_iff (q := 64) (qa_e rfl h) rfl (qa_F_ge c4)
              replace h := qa_push (z := (1 : Int32)) (q := 65) (qa_e rfl h) rfl (by decide)
              replace h := qa_goto (q := 69) (qa_e rfl h) rfl
              exact ⟨lv, M, (qa_hi1 c4 h), hM, es, g0, g1, g2, g3, g4, g5⟩
            · replace h := qa_ift (q := 68) (qa_e rfl h) rfl (qa_T_ge c4)
              replace h := qa_push (z := (0 : Int32)) (q := 69) (qa_e rfl h) rfl (by decide)
              exact ⟨lv, M, (qa_hi0 c4 h), hM, es, g0, g1, g2, g3, g4, g5⟩
          exact ⟨lv, M, (qa_hi0 c3 h), hM, es, g0, g1, g2, g3, g4, g5⟩
      obtain ⟨lv, h, g, T⟩ := qa_istore (n := 6) (q := 71) (qa_e rfl h) rfl
      replace g0 := T _ _ g0 (by decide) (Or.inr rfl)
      replace g1 := T _ _ g1 (by decide) (Or.inr rfl)
      replace g2 := T _ _ g2 (by decide) (Or.inr rfl)
      replace g3 := T _ _ g3 (by decide) (Or.inr rfl)
      replace g4 := T _ _ g4 (by decide) (Or.inr rfl)
      replace g5 := T _ _ g5 (by decide) (Or.inr rfl)
      have g6 := g
      clear g T
      replace h := qa_iload (n := 6) (q := 73) (qa_e rfl h) rfl g6
      obtain ⟨lv, M, h, hM, es, g0, g1, g3, g4, g5, g6⟩ : ∃ lv M, q4_run f 206 82 lv [.int ((if (if s.2.1 < (0 : Int32) then (1 : Int32) else (if r2 < s.2.2 then (1 : Int32) else (0 : Int32))) = (0 : Int32) then s.2.1 else s.1))] M 0 0 = some r ∧ qa_O M ∧ qa_s M = σ ∧ q4_get lv 0 = some (.ref 99) ∧ q4_get lv 1 = some (.int (l1)) ∧ q4_get lv 3 = some (.int (s.2.2)) ∧ q4_get lv 4 = some (.int (s.1)) ∧ q4_get lv 5 = some (.int (r2)) ∧ q4_get lv 6 = some (.int ((if s.2.1 < (0 : Int32) then (1 : Int32) else (if r2 < s.2.2 then (1 : Int32) else (0 : Int32))))) := by
        by_cases c5 : (if s.2.1 < (0 : Int32) then (1 : Int32) else (if r2 < s.2.2 then (1 : Int32) else (0 : Int32))) = (0 : Int32)
        · replace h := qa_ict (q := 81) (qa_e rfl h) rfl (qa_T_eq c5)
          replace h := qa_iload (n := 2) (q := 82) (qa_e rfl h) rfl g2
          exact ⟨lv, M, (qa_hi1 c5 h), hM, es, g0, g1, g3, g4, g5, g6⟩
        · replace h := qa_icf (q := 76) (qa_e rfl h) rfl (qa_F_eq c5)
          replace h := qa_iload (n := 4) (q := 78) (qa_e rfl h) rfl g4
          replace h := qa_goto (q := 82) (qa_e rfl h) rfl
          exact ⟨lv, M, (qa_hi0 c5 h), hM, es, g0, g1, g3, g4, g5, g6⟩
      obtain ⟨lv, h, g, T⟩ := qa_istore (n := 2) (q := 83) (qa_e rfl h) rfl
      replace g0 := T _ _ g0 (by decide) (Or.inr rfl)
      replace g1 := T _ _ g1 (by decide) (Or.inr rfl)
      replace g3 := T _ _ g3 (by decide) (Or.inr rfl)
      replace g4 := T _ _ g4 (by decide) (Or.inr rfl)
      replace g5 := T _ _ g5 (by decide) (Or.inr rfl)
      replace g6 := T _ _ g6 (by decide) (Or.inr rfl)
      have g2 := g
      clear g T
      replace h := qa_iload (n := 6) (q := 85) (qa_e rfl h) rfl g6
      obtain ⟨lv, M, h, hM, es, g0, g1, g2, g4⟩ : ∃ lv M, q4_run f 206 94 lv [.int ((if (if s.2.1 < (0 : Int32) then (1 : Int32) else (if r2 < s.2.2 then (1 : Int32) else (0 : Int32))) = (0 : Int32) then s.2.2 else r2))] M 0 0 = some r ∧ qa_O M ∧ qa_s M = σ ∧ q4_get lv 0 = some (.ref 99) ∧ q4_get lv 1 = some (.int (l1)) ∧ q4_get lv 2 = some (.int ((if (if s.2.1 < (0 : Int32) then (1 : Int32) else (if r2 < s.2.2 then (1 : Int32) else (0 : Int32))) = (0 : Int32) then s.2.1 else s.1))) ∧ q4_get lv 4 = some (.int (s.1)) := by
        by_cases c6 : (if s.2.1 < (0 : Int32) then (1 : Int32) else (if r2 < s.2.2 then (1 : Int32) else (0 : Int32))) = (0 : Int32)
        · replace h := qa_ict (q := 93) (qa_e rfl h) rfl (qa_T_eq c6)
          replace h := qa_iload (n := 3) (q := 94) (qa_e rfl h) rfl g3
          exact ⟨lv, M, (qa_hi1 c6 h), hM, es, g0, g1, g2, g4⟩
        · replace h := qa_icf (q := 88) (qa_e rfl h) rfl (qa_F_eq c6)
          replace h := qa_iload (n := 5) (q := 90) (qa_e rfl h) rfl g5
          replace h := qa_goto (q := 94) (qa_e rfl h) rfl
          exact ⟨lv, M, (qa_hi0 c6 h), hM, es, g0, g1, g2, g4⟩
      obtain ⟨lv, h, g, T⟩ := qa_istore (n := 3) (q := 95) (qa_e rfl h) rfl
      replace g0 := T _ _ g0 (by decide) (Or.inr rfl)
      replace g1 := T _ _ g1 (by decide) (Or.inr rfl)
      replace g2 := T _ _ g2 (by decide) (Or.inr rfl)
      replace g4 := T _ _ g4 (by decide) (Or.inr rfl)
      have g3 := g
      clear g T
      obtain ⟨lv, h, g, T⟩ := qa_iinc (n := 4) (z := (1 : Int32)) (q := 98) (qa_e rfl h) rfl (by decide) g4
      replace g0 := T _ _ g0 (by decide) (Or.inr rfl)
      replace g1 := T _ _ g1 (by decide) (Or.inr rfl)
      replace g2 := T _ _ g2 (by decide) (Or.inr rfl)
      replace g3 := T _ _ g3 (by decide) (Or.inr rfl)
      replace g4 := g
      clear g T
      replace h := qa_goto (q := 35) (qa_e rfl h) rfl
      have e0 : mc_206_99_p35 N l1 σ s = .inl ((s.1 + (1 : Int32)), (if (if s.2.1 < (0 : Int32) then (1 : Int32) else (if r2 < s.2.2 then (1 : Int32) else (0 : Int32))) = (0 : Int32) then s.2.1 else s.1), (if (if s.2.1 < (0 : Int32) then (1 : Int32) else (if r2 < s.2.2 then (1 : Int32) else (0 : Int32))) = (0 : Int32) then s.2.2 else r2)) := by exact Eq.trans (if_pos c1) (Eq.trans (qa_ie er2) (rfl))
      rw [qa_whl e0]
      exact ih n hn (Nat.le_of_succ_le hF) ((s.1 + (1 : Int32)), (if (if s.2.1 < (0 : Int32) then (1 : Int32) else (if r2 < s.2.2 then (1 : Int32) else (0 : Int32))) = (0 : Int32) then s.2.1 else s.1), (if (if s.2.1 < (0 : Int32) then (1 : Int32) else (if r2 < s.2.2 then (1 : Int32) else (0 : Int32))) = (0 : Int32) then s.2.2 else r2)) _ _ hM es g0 g1 g2 g3 g4 h
    · replace h := qa_ift (q := 101) (qa_e rfl h) rfl (qa_T_ge c1)
      have e0 : mc_206_99_p35 N l1 σ s = .inr (s.1, s.2.1, s.2.2) := by exact Eq.trans (if_neg c1) (rfl)
      rw [qa_whr e0]
      exact ⟨_, _, q61_mono f F _ _ _ _ _ _ _ _ (Nat.le_of_succ_le hF) h, hM, es, g1, g2, g3⟩
