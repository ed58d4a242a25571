/-- BuriedBySevens, fitsBy, (I)I -/
noncomputable def ma_87_3 (N : Nat) (a1 : Int32) (σ : qa_S) : Int32 × qa_S :=
  qa_in ((ma_65_3 N a1 σ)) fun m1 =>
  qa_in ((ma_72_3 N m1)) fun m2 =>
  qa_in ((ma_75_73_80 N m2)) fun r3 =>
  (r3, m2)
theorem mb_87_3 {f N : Nat} (hN : f ≤ N) {M : q4_M} {r : Option Value × q4_M} {σ : qa_S} {a1 : Int32} (hM : qa_O M) (es : qa_s M = σ) (h : q4_run f 87 0 (lv_args 0 [.ref 3, .int (a1)]) [] M 0 0 = some r) : r.1 = some (.int ((ma_87_3 N a1 σ).1)) ∧ qa_O r.2 ∧ qa_s r.2 = (ma_87_3 N a1 σ).2 := by
  obtain ⟨lv, el⟩ : ∃ l, l = lv_args 0 [.ref 3, .int (a1)] := ⟨_, rfl⟩
  have g0 : q4_get lv 0 = some (.ref 3) := by rw [el]; rfl
  have g1 : q4_get lv 1 = some (.int (a1)) := by rw [el]; rfl
  rw [← el] at h
  clear el
  replace h := qa_aload (n := 0) (q := 1) (qa_e rfl h) rfl g0
  replace h := qa_iload (n := 1) (q := 2) (qa_e rfl h) rfl g1
  obtain ⟨m1, em1⟩ : ∃ x, x = (ma_65_3 N a1 σ) := ⟨_, rfl⟩
  obtain ⟨M, h, hM, es⟩ := qa_c0 (y := 65) (as := [.ref 3, .int (a1)]) (rest := []) (i := .invokevirtual 65) (q := 5) (qa_e rfl h) (Or.inl rfl) rfl rfl (by decide) rfl (fun r hc => mb_65_3 hN hM es hc)
  rw [← em1] at es
  replace h := qa_aload (n := 0) (q := 6) (qa_e rfl h) rfl g0
  obtain ⟨m2, em2⟩ : ∃ x, x = (ma_72_3 N m1) := ⟨_, rfl⟩
  obtain ⟨M, h, hM, es⟩ := qa_c1 (y := 72) (as := [.ref 3]) (rest := []) (i := .invokevirtual 72) (q := 9) (qa_e rfl h) (Or.inl rfl) rfl rfl (by decide) rfl (fun r hc => mb_72_3 hN hM es hc)
  rw [← em2] at es
  replace h := qa_aload (n := 0) (q := 10) (qa_e rfl h) rfl g0
  replace h := qa_gr (b := 80) (j := 4) (q := 13) (qa_e rfl h) rfl hM rfl (by decide)
  obtain ⟨r3, er3⟩ : ∃ x, x = (ma_75_73_80 N m2) := ⟨_, rfl⟩
  obtain ⟨M, h, hM, es⟩ := qa_c1 (y := 75) (as := [.ref 73, .ref 80]) (rest := []) (i := .invokevirtual 75) (q := 16) (qa_e rfl h) (Or.inl rfl) rfl rfl (by decide) rfl (fun r hc => mb_75_73_80 hN hM es hc)
  rw [← er3] at h
  have er := qa_ri (qa_e rfl h)
  subst er
  have e0 : ma_87_3 N a1 σ = (r3, m2) := by exact Eq.trans (qa_ie em1) (Eq.trans (qa_ie em2) (Eq.trans (qa_ie er3) (rfl)))
  rw [e0]
  exact ⟨rfl, hM, es⟩
noncomputable def mc_86_3_p23 (N : Nat) (l1 : Int32) (s : Int32 × Int32 × Int32 × qa_S) : (Int32 × Int32 × Int32 × qa_S) ⊕ (Int32 × Int32 × Int32 × qa_S) :=
  if s.1 < (s.2.2.2 4 1) then
    qa_in ((ma_87_3 N ((1 : Int32) <<< (s.1 &&& 31)) s.2.2.2)) fun r2 =>
    .inl ((s.1 + (1 : Int32)), (if s.2.1 = (-9 : Int32) then s.1 else (if r2.1 < s.2.2.1 then s.1 else s.2.1)), (if s.2.1 = (-9 : Int32) then r2.1 else (if r2.1 < s.2.2.1 then r2.1 else s.2.2.1)), r2.2)
  else
    .inr (s.1, s.2.1, s.2.2.1, s.2.2.2)
theorem md_86_3_p23 {N F : Nat} {r : Option Value × q4_M} {l1 : Int32} (hN : F ≤ N) : ∀ f n, f ≤ n → f ≤ F → ∀ (s : Int32 × Int32 × Int32 × qa_S) (lv : List (Nat × Value)) (M : q4_M), qa_O M → qa_s M = s.2.2.2 → q4_get lv 0 = some (.ref 3) → q4_get lv 1 = some (.int (l1)) → q4_get lv 2 = some (.int (s.2.1)) → q4_get lv 3 = some (.int (s.2.2.1)) → q4_get lv 4 = some (.int (s.1)) → q4_run f 86 23 lv [] M 0 0 = some r → ∃ lv M, q4_run F 86 69 lv [] M 0 0 = some r ∧ qa_O M ∧ qa_s M = (qa_wh (fun s => s) (mc_86_3_p23 N l1) n s).2.2.2 ∧ q4_get lv 1 = some (.int (l1)) ∧ q4_get lv 2 = some (.int ((qa_wh (fun s => s) (mc_86_3_p23 N l1) n s).2.1)) ∧ q4_get lv 3 = some (.int ((qa_wh (fun s => s) (mc_86_3_p23 N l1) n s).2.2.1)) := by
  intro f
  induction f with
  | zero => intro n _ _ s lv M hM es _ _ _ _ _ h; cases h
  | succ f ih =>
    intro n hn hF s lv M hM es g0 g1 g2 g3 g4 h
    obtain ⟨n, rfl⟩ : ∃ n1, n = n1 + 1 := ⟨n - 1, by omega⟩
    replace hn : f ≤ n := Nat.le_of_succ_le_succ hn
    have hN := Nat.le_trans (Nat.le_of_succ_le hF) hN
    replace h := qa_iload (n := 4) (q := 25) (qa_d rfl h) rfl g4
    replace h := qa_aload (n := 0) (q := 26) (qa_e rfl h) rfl g0
    replace h := qa_gr (b := 4) (j := 0) (q := 29) (qa_e rfl h) rfl hM rfl (by decide)
    replace h := qa_gi (j := 1) (q := 32) (qa_e rfl h) rfl hM es rfl (by decide)
    by_cases c1 : s.1 < (s.2.2.2 4 1)
    · replace h := qa_iff (q := 35) (qa_e rfl h) rfl (qa_F_ge c1)
      replace h := qa_aload (n := 0) (q := 36) (qa_e rfl h) rfl g0
      replace h := qa_push (z := (1 : Int32)) (q := 37) (qa_e rfl h) rfl (by decide)
      replace h := qa_iload (n := 4) (q := 39) (qa_e rfl h) rfl g4
      replace h := qa_ishl (q := 40) (qa_e rfl h) rfl
      obtain ⟨r2, er2⟩ : ∃ x, x = (ma_87_3 N ((1 : Int32) <<< (s.1 &&& 31)) s.2.2.2) := ⟨_, rfl⟩
      obtain ⟨M, h, hM, es⟩ := qa_c1 (y := 87) (as := [.ref 3, .int (((1 : Int32) <<< (s.1 &&& 31)))]) (rest := []) (i := .invokevirtual 87) (q := 43) (qa_e rfl h) (Or.inl rfl) rfl rfl (by decide) rfl (fun r hc => mb_87_3 hN hM es hc)
      rw [← er2] at h es
      obtain ⟨lv, h, g, T⟩ := qa_istore (n := 5) (q := 45) (qa_e rfl h) rfl
      replace g0 := T _ _ g0 (by decide) (Or.inr rfl)
      replace g1 := T _ _ g1 (by decide) (Or.inr rfl)
      replace g2 := T _ _ g2 (by decide) (Or.inr rfl)
      replace g3 := T _ _ g3 (by decide) (Or.inr rfl)
      replace g4 := T _ _ g4 (by decide) (Or.inr rfl)
      have g5 := g
      clear g T
      replace h := qa_iload (n := 2) (q := 46) (qa_e rfl h) rfl g2
      replace h := qa_push (z := (-9 : Int32)) (q := 48) (qa_e rfl h) rfl (by decide)
      obtain ⟨lv, M, h, hM, es, g0, g1, g2, g3, g4⟩ : ∃ lv M, q4_run f 86 63 lv [] M 0 0 = some r ∧ qa_O M ∧ qa_s M = r2.2 ∧ q4_get lv 0 = some (.ref 3) ∧ q4_get lv 1 = some (.int (l1)) ∧ q4_get lv 2 = some (.int ((if s.2.1 = (-9 : Int32) then s.1 else (if r2.1 < s.2.2.1 then s.1 else s.2.1)))) ∧ q4_get lv 3 = some (.int ((if s.2.1 = (-9 : Int32) then r2.1 else (if r2.1 < s.2.2.1 then r2.1 else s.2.2.1)))) ∧ q4_get lv 4 = some (.int (s.1)) := by
        by_cases c3 : s.2.1 = (-9 : Int32)
        · replace h := qa_ift (q := 57) (qa_e rfl h) rfl (qa_T_eq c3)
          replace h := qa_iload (n := 4) (q := 59) (qa_e rfl h) rfl g4
          obtain ⟨lv, h, g, T⟩ := qa_istore (n := 2) (q := 60) (qa_e rfl h) rfl
          replace g0 := T _ _ g0 (by decide) (Or.inr rfl)
          replace g1 := T _ _ g1 (by decide) (Or.inr rfl)
          replace g4 := T _ _ g4 (by decide) (Or.inr rfl)
          replace g5 := T _ _ g5 (by decide) (Or.inr rfl)
          have g2 := g
          clear g T
          replace h := qa_iload (n := 5) (q := 62) (qa_e rfl h) rfl g5
          obtain ⟨lv, h, g, T⟩ := qa_istore (n := 3) (q := 63) (qa_e rfl h) rfl
          replace g0 := T _ _ g0 (by decide) (Or.inr rfl)
          replace g1 := T _ _ g1 (by decide) (Or.inr rfl)
          replace g2 := T _ _ g2 (by decide) (Or.inr rfl)
          replace g4 := T _ _ g4 (by decide) (Or.inr rfl)
          have g3 := g
          clear g T
          exact ⟨lv, M, h, hM, es, g0, g1, (qa_gi1 c3 g2), (qa_gi1 c3 g3), g4⟩
        · replace h := qa_iff (q := 51) (qa_e rfl h) rfl (qa_F_eq c3)
          replace h := qa_iload (n := 5) (q := 53) (qa_e rfl h) rfl g5
          replace h := qa_iload (n := 3) (q := 54) (qa_e rfl h) rfl g3
          obtain ⟨lv, M, h, hM, es, g0, g1, g2, g3, g4⟩ : ∃ lv M, q4_run f 86 63 lv [] M 0 0 = some r ∧ qa_O M ∧ qa_s M = r2.2 ∧ q4_get lv 0 = some (.ref 3) ∧ q4_get lv 1 = some (.int (l1)) ∧ q4_get lv 2 = some (.int ((if r2.1 < s.2.2.1 then s.1 else s.2.1))) ∧ q4_get lv 3 = some (.int ((if r2.1 < s.2.2.1 then r2.1 else s.2.2.1))) ∧ q4_get lv 4 = some (.int (s.1)) := by
            by_cases c4 : r2.1 < s.2.2.1
            · replace h := qa_iff (q := 57) (qa_e rfl h) rfl (qa_F_ge c4)
              replace h := qa_iload (n := 4) (q := 59) (qa_e rfl h) rfl g4
              obtain ⟨lv, h, g, T⟩ := qa_istore (n := 2) (q := 60) (qa_e rfl h) rfl
              replace g0 := T _ _ g0 (by decide) (Or.inr rfl)
              replace g1 := T _ _ g1 (by decide) (Or.inr rfl)
              replace g4 := T _ _ g4 (by decide) (Or.inr rfl)
              replace g5 := T _ _ g5 (by decide) (Or.inr rfl)
              have g2 := g
              clear g T
              replace h := qa_iload (n := 5) (q := 62) (qa_e rfl h) rfl g5
              obtain ⟨lv, h, g, T⟩ := qa_istore (n := 3) (q := 63) (qa_e rfl h) rfl
              replace g0 := T _ _ g0 (by decide) (Or.inr rfl)
              replace g1 := T _ _ g1 (by decide) (Or.inr rfl)
              replace g2 := T _ _ g2 (by decide) (Or.inr rfl)
              replace g4 := T _ _ g4 (by decide) (Or.inr rfl)
              have g3 := g
              clear g T
              exact ⟨lv, M, h, hM, es, g0, g1, (qa_gi1 c4 g2), (qa_gi1 c4 g3), g4⟩
            · replace h := qa_ift (q := 63) (qa_e rfl h) rfl (qa_T_ge c4)
              exact ⟨lv, M, h, hM, es, g0, g1, (qa_gi0 c4 g2), (qa_gi0 c4 g3), g4⟩
          exact ⟨lv, M, h, hM, es, g0, g1, (qa_gi0 c3 g2), (qa_gi0 c3 g3), g4⟩
      obtain ⟨lv, h, g, T⟩ := qa_iinc (n := 4) (z := (1 : Int32)) (q := 66) (qa_e rfl h) rfl (by decide) g4
      replace g0 := T _ _ g0 (by decide) (Or.inr rfl)
      replace g1 := T _ _ g1 (by decide) (Or.inr rfl)
      replace g2 := T _ _ g2 (by decide) (Or.inr rfl)
      replace g3 := T _ _ g3 (by decide) (Or.inr rfl)
      replace g4 := g
      clear g T
      replace h := qa_goto (q := 23) (qa_e rfl h) rfl
      have e0 : mc_86_3_p23 N l1 s = .inl ((s.1 + (1 : Int32)), (if s.2.1 = (-9 : Int32) then s.1 else (if r2.1 < s.2.2.1 then s.1 else s.2.1)), (if s.2.1 = (-9 : Int32) then r2.1 else (if r2.1 < s.2.2.1 then r2.1 else s.2.2.1)), r2.2) := by exact Eq.trans (if_pos c1) (Eq.trans (qa_ie er2) (rfl))
      rw [qa_whl e0]
      exact ih n hn (Nat.le_of_succ_le hF) ((s.1 + (1 : Int32)), (if s.2.1 = (-9 : Int32) then s.1 else (if r2.1 < s.2.2.1 then s.1 else s.2.1)), (if s.2.1 = (-9 : Int32) then r2.1 else (if r2.1 < s.2.2.1 then r2.1 else s.2.2.1)), r2.2) _ _ hM es g0 g1 g2 g3 g4 h
    · replace h := qa_ift (q := 69) (qa_e rfl h) rfl (qa_T_ge c1)
      have e0 : mc_86_3_p23 N l1 s = .inr (s.1, s.2.1, s.2.2.1, s.2.2.2) := by exact Eq.trans (if_neg c1) (rfl)
      rw [qa_whr e0]
      exact ⟨_, _, q61_mono f F _ _ _ _ _ _ _ _ (Nat.le_of_succ_le hF) h, hM, es, g1, g2, g3⟩
/-- BuriedBySevens, tellsMost, (I)I -/
noncomputable def ma_86_3 (N : Nat) (a1 : Int32) (σ : qa_S) : Int32 × qa_S :=
  if (ma_57 a1) = (0 : Int32) then
    qa_in ((ma_9_3 (-2 : Int32) σ)) fun r2 =>
    (r2.1, r2.2)
  else
    qa_in ((qa_wh (fun s => s) (mc_86_3_p23 N a1) N ((0 : Int32), (-9 : Int32), (-9 : Int32), σ))) fun r3 =>
    ((if a1 = (0 : Int32) then r3.2.1 else r3.2.2.1), r3.2.2.2)
theorem mb_86_3 {f N : Nat} (hN : f ≤ N) {M : q4_M} {r : Option Value × q4_M} {σ : qa_S} {a1 : Int32} (hM : qa_O M) (es : qa_s M = σ) (h : q4_run f 86 0 (lv_args 0 [.ref 3, .int (a1)]) [] M 0 0 = some r) : r.1 = some (.int ((ma_86_3 N a1 σ).1)) ∧ qa_O r.2 ∧ qa_s r.2 = (ma_86_3 N a1 σ).2 := by
  obtain ⟨lv, el⟩ : ∃ l, l = lv_args 0 [.ref 3, .int (a1)] := ⟨_, rfl⟩
  have g0 : q4_get lv 0 = some (.ref 3) := by rw [el]; rfl
  have g1 : q4_get lv 1 = some (.int (a1)) := by rw [el]; rfl
  rw [← el] at h
  clear el
  replace h := qa_iload (n := 1) (q := 1) (qa_e rfl h) rfl g1
  obtain ⟨M, h, hM, es⟩ := qa_c1 (y := 57) (as := [.int (a1)]) (rest := []) (i := .invokestatic 57) (q := 4) (qa_e rfl h) (Or.inr rfl) rfl rfl (by decide) rfl (fun r hc => mb_57 hM es hc)
  by_cases c1 : (ma_57 a1) = (0 : Int32)
  · replace h := qa_icf (q := 7) (qa_e rfl h) rfl (qa_F_ne c1)
    replace h := qa_aload (n := 0) (q := 8) (qa_e rfl h) rfl g0
    replace h := qa_push (z := (-2 : Int32)) (q := 10) (qa_e rfl h) rfl (by decide)
    obtain ⟨r2, er2⟩ : ∃ x, x = (ma_9_3 (-2 : Int32) σ) := ⟨_, rfl⟩
    obtain ⟨M, h, hM, es⟩ := qa_c1 (y := 9) (as := [.ref 3, .int ((-2 : Int32))]) (rest := []) (i := .invokevirtual 9) (q := 13) (qa_e rfl h) (Or.inl rfl) rfl rfl (by decide) rfl (fun r hc => mb_9_3 hM es hc)
    rw [← er2] at h es
    have er := qa_ri (qa_e rfl h)
    subst er
    have e0 : ma_86_3 N a1 σ = (r2.1, r2.2) := by exact Eq.trans (if_pos c1) (Eq.trans (qa_ie er2) (rfl))
    rw [e0]
    exact ⟨rfl, hM, es⟩
  · replace h := qa_ict (q := 14) (qa_e rfl h) rfl (qa_T_ne c1)
    replace h := qa_push (z := (-9 : Int32)) (q := 16) (qa_e rfl h) rfl (by decide)
    obtain ⟨lv, h, g, T⟩ := qa_istore (n := 2) (q := 17) (qa_e rfl h) rfl
    replace g0 := T _ _ g0 (by decide) (Or.inr rfl)
    replace g1 := T _ _ g1 (by decide) (Or.inr rfl)
    have g2 := g
    clear g T
    replace h := qa_push (z := (-9 : Int32)) (q := 19) (qa_e rfl h) rfl (by decide)
    obtain ⟨lv, h, g, T⟩ := qa_istore (n := 3) (q := 20) (qa_e rfl h) rfl
    replace g0 := T _ _ g0 (by decide) (Or.inr rfl)
    replace g1 := T _ _ g1 (by decide) (Or.inr rfl)
    replace g2 := T _ _ g2 (by decide) (Or.inr rfl)
    have g3 := g
    clear g T
    replace h := qa_push (z := (0 : Int32)) (q := 21) (qa_e rfl h) rfl (by decide)
    obtain ⟨lv, h, g, T⟩ := qa_istore (n := 4) (q := 23) (qa_e rfl h) rfl
    replace g0 := T _ _ g0 (by decide) (Or.inr rfl)
    replace g1 := T _ _ g1 (by decide) (Or.inr rfl)
    replace g2 := T _ _ g2 (by decide) (Or.inr rfl)
    replace g3 := T _ _ g3 (by decide) (Or.inr rfl)
    have g4 := g
    clear g T
    obtain ⟨r3, er3⟩ : ∃ x, x = (qa_wh (fun s => s) (mc_86_3_p23 N a1) N ((0 : Int32), (-9 : Int32), (-9 : Int32), σ)) := ⟨_, rfl⟩
    have L := md_86_3_p23 (l1 := a1) (F := f) (N := N) (r := r) hN f N hN (Nat.le_refl f) ((0 : Int32), (-9 : Int32), (-9 : Int32), σ) _ _ hM es g0 g1 g2 g3 g4 h
    rw [← er3] at L
    obtain ⟨lv, M, h, hM, es, g1, g2, g3⟩ := L
    replace h := qa_iload (n := 1) (q := 70) (qa_e rfl h) rfl g1
    obtain ⟨lv, M, h, hM, es⟩ : ∃ lv M, q4_run f 86 78 lv [.int ((if a1 = (0 : Int32) then r3.2.1 else r3.2.2.1))] M 0 0 = some r ∧ qa_O M ∧ qa_s M = r3.2.2.2 := by
      by_cases c4 : a1 = (0 : Int32)
      · replace h := qa_icf (q := 73) (qa_e rfl h) rfl (qa_F_ne c4)
        replace h := qa_iload (n := 2) (q := 74) (qa_e rfl h) rfl g2
        replace h := qa_goto (q := 78) (qa_e rfl h) rfl
        exact ⟨lv, M, (qa_hi1 c4 h), hM, es⟩
      · replace h := qa_ict (q := 77) (qa_e rfl h) rfl (qa_T_ne c4)
        replace h := qa_iload (n := 3) (q := 78) (qa_e rfl h) rfl g3
        exact ⟨lv, M, (qa_hi0 c4 h), hM, es⟩
    have er := qa_ri (qa_e rfl h)
    subst er
    have e0 : ma_86_3 N a1 σ = ((if a1 = (0 : Int32) then r3.2.1 else r3.2.2.1), r3.2.2.2) := by exact Eq.trans (if_neg c1) (Eq.trans (qa_ie er3) (rfl))
    rw [e0]
    exact ⟨rfl, hM, es⟩
noncomputable def mc_88_3_p16 (N : Nat) (l1 : Int32) (l3 : Int32) (s : Int32 × Int32 × qa_S) : (Int32 × Int32 × qa_S) ⊕ (Int32 × Int32 × qa_S) :=
  if s.1 < l1 then
    qa_in ((ma_87_3 N s.1 s.2.2)) fun r3 =>
    qa_in ((if (ma_63 s.1) < (ma_63 s.2.1) then r3.2 else s.2.2)) fun m5 =>
    .inl ((s.1 + (1 : Int32)), (if (ma_63 s.1) < (ma_63 s.2.1) then (if r3.1 = l3 then s.1 else s.2.1) else s.2.1), m5)
  else
    .inr (s.1, s.2.1, s.2.2)
theorem md_88_3_p16 {N F : Nat} {r : Option Value × q4_M} {l1 : Int32} {l3 : Int32} (hN : F ≤ N) : ∀ f n, f ≤ n → f ≤ F → ∀ (s : Int32 × Int32 × qa_S) (lv : List (Nat × Value)) (M : q4_M), qa_O M → qa_s M = s.2.2 → q4_get lv 0 = some (.ref 3) → q4_get lv 1 = some (.int (l1)) → q4_get lv 2 = some (.int (s.2.1)) → q4_get lv 3 = some (.int (l3)) → q4_get lv 4 = some (.int (s.1)) → q4_run f 88 16 lv [] M 0 0 = some r → ∃ lv M, q4_run F 88 53 lv [] M 0 0 = some r ∧ qa_O M ∧ qa_s M = (qa_wh (fun s => s) (mc_88_3_p16 N l1 l3) n s).2.2 ∧ q4_get lv 2 = some (.int ((qa_wh (fun s => s) (mc_88_3_p16 N l1 l3) n s).2.1)) := by
  intro f
  induction f with
  | zero => intro n _ _ s lv M hM es _ _ _ _ _ h; cases h
  | succ f ih =>
    intro n hn hF s lv M hM es g0 g1 g2 g3 g4 h
    obtain ⟨n, rfl⟩ : ∃ n1, n = n1 + 1 := ⟨n - 1, by omega⟩
    replace hn : f ≤ n := Nat.le_of_succ_le_succ hn
    have hN := Nat.le_trans (Nat.le_of_succ_le hF) hN
    replace h := qa_iload (n := 4) (q := 18) (qa_d rfl h) rfl g4
    replace h := qa_iload (n := 1) (q := 19) (qa_e rfl h) rfl g1
    by_cases c1 : s.1 < l1
    · replace h := qa_iff (q := 22) (qa_e rfl h) rfl (qa_F_ge c1)
      replace h := qa_iload (n := 4) (q := 24) (qa_e rfl h) rfl g4
      obtain ⟨M, h, hM, es⟩ := qa_c1 (y := 63) (as := [.int (s.1)]) (rest := []) (i := .invokestatic 63) (q := 27) (qa_e rfl h) (Or.inr rfl) rfl rfl (by decide) rfl (fun r hc => mb_63 hM es hc)
      replace h := qa_iload (n := 2) (q := 28) (qa_e rfl h) rfl g2
      obtain ⟨M, h, hM, es⟩ := qa_c1 (y := 63) (as := [.int (s.2.1)]) (rest := [.int ((ma_63 s.1))]) (i := .invokestatic 63) (q := 31) (qa_e rfl h) (Or.inr rfl) rfl rfl (by decide) rfl (fun r hc => mb_63 hM es hc)
      obtain ⟨r3, er3⟩ : ∃ x, x = (ma_87_3 N s.1 s.2.2) := ⟨_, rfl⟩
      obtain ⟨m5, em5⟩ : ∃ x, x = (if (ma_63 s.1) < (ma_63 s.2.1) then r3.2 else s.2.2) := ⟨_, rfl⟩
      obtain ⟨lv, M, h, hM, es, g0, g1, g2, g3, g4⟩ : ∃ lv M, q4_run f 88 47 lv [] M 0 0 = some r ∧ qa_O M ∧ qa_s M = m5 ∧ q4_get lv 0 = some (.ref 3) ∧ q4_get lv 1 = some (.int (l1)) ∧ q4_get lv 2 = some (.int ((if (ma_63 s.1) < (ma_63 s.2.1) then (if r3.1 = l3 then s.1 else s.2.1) else s.2.1))) ∧ q4_get lv 3 = some (.int (l3)) ∧ q4_get lv 4 = some (.int (s.1)) := by
        by_cases c2 : (ma_63 s.1) < (ma_63 s.2.1)
        · replace h := qa_iff (q := 34) (qa_e rfl h) rfl (qa_F_ge c2)
          replace h := qa_aload (n := 0) (q := 35) (qa_e rfl h) rfl g0
          replace h := qa_iload (n := 4) (q := 37) (qa_e rfl h) rfl g4
          obtain ⟨M, h, hM, es⟩ := qa_c1 (y := 87) (as := [.ref 3, .int (s.1)]) (rest := []) (i := .invokevirtual 87) (q := 40) (qa_e rfl h) (Or.inl rfl) rfl rfl (by decide) rfl (fun r hc => mb_87_3 hN hM es hc)
          rw [← er3] at h es
          replace h := qa_iload (n := 3) (q := 41) (qa_e rfl h) rfl g3
          obtain ⟨lv, M, h, hM, es, g0, g1, g2, g3, g4⟩ : ∃ lv M, q4_run f 88 47 lv [] M 0 0 = some r ∧ qa_O M ∧ qa_s M = r3.2 ∧ q4_get lv 0 = some (.ref 3) ∧ q4_get lv 1 = some (.int (l1)) ∧ q4_get lv 2 = some (.int ((if r3.1 = l3 then s.1 else s.2.1))) ∧ q4_get lv 3 = some (.int (l3)) ∧ q4_get lv 4 = some (.int (s.1)) := by
            by_cases c4 : r3.1 = l3
            · replace h := qa_iff (q := 44) (qa_e rfl h) rfl (qa_F_ne c4)
              replace h := qa_iload (n := 4) (q := 46) (qa_e rfl h) rfl g4
              obtain ⟨lv, h, g, T⟩ := qa_istore (n := 2) (q := 47) (qa_e rfl h) rfl
              replace g0 := T _ _ g0 (by decide) (Or.inr rfl)
              replace g1 := T _ _ g1 (by decide) (Or.inr rfl)
              replace g3 := T _ _ g3 (by decide) (Or.inr rfl)
              replace g4 := T _ _ g4 (by decide) (Or.inr rfl)
              have g2 := g
              clear g T
              exact ⟨lv, M, h, hM, es, g0, g1, (qa_gi1 c4 g2), g3, g4⟩
            · replace h := qa_ift (q := 47) (qa_e rfl h) rfl (qa_T_ne c4)
              exact ⟨lv, M, h, hM, es, g0, g1, (qa_gi0 c4 g2), g3, g4⟩
          exact ⟨lv, M, h, hM, ((qa_ms1 c2 es).trans em5.symm), g0, g1, (qa_gi1 c2 g2), g3, g4⟩
        · replace h := qa_ift (q := 47) (qa_e rfl h) rfl (qa_T_ge c2)
          exact ⟨lv, M, h, hM, ((qa_ms0 c2 es).trans em5.symm), g0, g1, (qa_gi0 c2 g2), g3, g4⟩
      obtain ⟨lv, h, g, T⟩ := qa_iinc (n := 4) (z := (1 : Int32)) (q := 50) (qa_e rfl h) rfl (by decide) g4
      replace g0 := T _ _ g0 (by decide) (Or.inr rfl)
      replace g1 := T _ _ g1 (by decide) (Or.inr rfl)
      replace g2 := T _ _ g2 (by decide) (Or.inr rfl)
      replace g3 := T _ _ g3 (by decide) (Or.inr rfl)
      replace g4 := g
      clear g T
      replace h := qa_goto (q := 16) (qa_e rfl h) rfl
      have e0 : mc_88_3_p16 N l1 l3 s = .inl ((s.1 + (1 : Int32)), (if (ma_63 s.1) < (ma_63 s.2.1) then (if r3.1 = l3 then s.1 else s.2.1) else s.2.1), m5) := by exact Eq.trans (if_pos c1) (Eq.trans (qa_ie er3) (Eq.trans (qa_ie em5) (rfl)))
      rw [qa_whl e0]
      exact ih n hn (Nat.le_of_succ_le hF) ((s.1 + (1 : Int32)), (if (ma_63 s.1) < (ma_63 s.2.1) then (if r3.1 = l3 then s.1 else s.2.1) else s.2.1), m5) _ _ hM es g0 g1 g2 g3 g4 h
    · replace h := qa_ift (q := 53) (qa_e rfl h) rfl (qa_T_ge c1)
      have e0 : mc_88_3_p16 N l1 l3 s = .inr (s.1, s.2.1, s.2.2) := by exact Eq.trans (if_neg c1) (rfl)
      rw [qa_whr e0]
      exact ⟨_, _, q61_mono f F _ _ _ _ _ _ _ _ (Nat.le_of_succ_le hF) h, hM, es, g2⟩
/-- BuriedBySevens, drops, ()I -/
noncomputable def ma_88_3 (N : Nat) (σ : qa_S) : Int32 × qa_S :=
  qa_in ((ma_87_3 N (ma_60_3 σ) σ)) fun r1 =>
  qa_in ((qa_wh (fun s => s) (mc_88_3_p16 N (ma_60_3 σ) r1.1) N ((0 : Int32), (ma_60_3 σ), r1.2))) fun r2 =>
  (r2.2.1, r2.2.2)
theorem mb_88_3 {f N : Nat} (hN : f ≤ N) {M : q4_M} {r : Option Value × q4_M} {σ : qa_S} (hM : qa_O M) (es : qa_s M = σ) (h : q4_run f 88 0 (lv_args 0 [.ref 3]) [] M 0 0 = some r) : r.1 = some (.int ((ma_88_3 N σ).1)) ∧ qa_O r.2 ∧ qa_s r.2 = (ma_88_3 N σ).2 := by
  obtain ⟨lv, el⟩ : ∃ l, l = lv_args 0 [.ref 3] := ⟨_, rfl⟩
  have g0 : q4_get lv 0 = some (.ref 3) := by rw [el]; rfl
  rw [← el] at h
  clear el
  replace h := qa_aload (n := 0) (q := 1) (qa_e rfl h) rfl g0
  obtain ⟨M, h, hM, es⟩ := qa_c1 (y := 60) (as := [.ref 3]) (rest := []) (i := .invokevirtual 60) (q := 4) (qa_e rfl h) (Or.inl rfl) rfl rfl (by decide) rfl (fun r hc => mb_60_3 hM es hc)
  obtain ⟨lv, h, g, T⟩ := qa_istore (n := 1) (q := 5) (qa_e rfl h) rfl
  replace g0 := T _ _ g0 (by decide) (Or.inr rfl)
  have g1 := g
  clear g T
  replace h := qa_iload (n := 1) (q := 6) (qa_e rfl h) rfl g1
  obtain ⟨lv, h, g, T⟩ := qa_istore (n := 2) (q := 7) (qa_e rfl h) rfl
  replace g0 := T _ _ g0 (by decide) (Or.inr rfl)
  replace g1 := T _ _ g1 (by decide) (Or.inr rfl)
  have g2 := g
  clear g T
  replace h := qa_aload (n := 0) (q := 8) (qa_e rfl h) rfl g0
  replace h := qa_iload (n := 1) (q := 9) (qa_e rfl h) rfl g1
  obtain ⟨r1, er1⟩ : ∃ x, x = (ma_87_3 N (ma_60_3 σ) σ) := ⟨_, rfl⟩
  obtain ⟨M, h, hM, es⟩ := qa_c1 (y := 87) (as := [.ref 3, .int ((ma_60_3 σ))]) (rest := []) (i := .invokevirtual 87) (q := 12) (qa_e rfl h) (Or.inl rfl) rfl rfl (by decide) rfl (fun r hc => mb_87_3 hN hM es hc)
  rw [← er1] at h es
  obtain ⟨lv, h, g, T⟩ := qa_istore (n := 3) (q := 13) (qa_e rfl h) rfl
  replace g0 := T _ _ g0 (by decide) (Or.inr rfl)
  replace g1 := T _ _ g1 (by decide) (Or.inr rfl)
  replace g2 := T _ _ g2 (by decide) (Or.inr rfl)
  have g3 := g
  clear g T
  replace h := qa_push (z := (0 : Int32)) (q := 14) (qa_e rfl h) rfl (by decide)
  obtain ⟨lv, h, g, T⟩ := qa_istore (n := 4) (q := 16) (qa_e rfl h) rfl
  replace g0 := T _ _ g0 (by decide) (Or.inr rfl)
  replace g1 := T _ _ g1 (by decide) (Or.inr rfl)
  replace g2 := T _ _ g2 (by decide) (Or.inr rfl)
  replace g3 := T _ _ g3 (by decide) (Or.inr rfl)
  have g4 := g
  clear g T
  obtain ⟨r2, er2⟩ : ∃ x, x = (qa_wh (fun s => s) (mc_88_3_p16 N (ma_60_3 σ) r1.1) N ((0 : Int32), (ma_60_3 σ), r1.2)) := ⟨_, rfl⟩
  have L := md_88_3_p16 (l1 := (ma_60_3 σ)) (l3 := r1.1) (F := f) (N := N) (r := r) hN f N hN (Nat.le_refl f) ((0 : Int32), (ma_60_3 σ), r1.2) _ _ hM es g0 g1 g2 g3 g4 h
  rw [← er2] at L
  obtain ⟨lv, M, h, hM, es, g2⟩ := L
  replace h := qa_iload (n := 2) (q := 54) (qa_e rfl h) rfl g2
  have er := qa_ri (qa_e rfl h)
  subst er
  have e0 : ma_88_3 N σ = (r2.2.1, r2.2.2) := by exact Eq.trans (qa_ie er1) (Eq.trans (qa_ie er2) (rfl))
  rw [e0]
  exact ⟨rfl, hM, es⟩
/-- BuriedBySevens, claim, (II)I -/
noncomputable def ma_89_3 (N : Nat) (a1 : Int32) (a2 : Int32) (σ : qa_S) : Int32 × qa_S :=
  if (ma_33_4 a1 σ) = (0 : Int32) then
    qa_in ((ma_9_3 (-1 : Int32) σ)) fun r2 =>
    (r2.1, r2.2)
  else
    if (ma_22_4 a2 σ) = (0 : Int32) then
      qa_in ((ma_9_3 (-1 : Int32) σ)) fun r4 =>
      (r4.1, r4.2)
    else
      qa_in ((ma_65_3 N ((1 : Int32) <<< (a1 &&& 31)) σ)) fun m5 =>
      qa_in ((ma_72_3 N m5)) fun m6 =>
      qa_in ((ma_82_73_80 N a2 m6)) fun r7 =>
      if r7 = (0 : Int32) then
        ((2 : Int32), m6)
      else
        qa_in ((ma_72_3 N m6)) fun m9 =>
        qa_in ((ma_75_73_80 N m9)) fun r10 =>
        ((if r7 = r10 then (0 : Int32) else (1 : Int32)), m9)
theorem mb_89_3 {f N : Nat} (hN : f ≤ N) {M : q4_M} {r : Option Value × q4_M} {σ : qa_S} {a1 : Int32} {a2 : Int32} (hM : qa_O M) (es : qa_s M = σ) (h : q4_run f 89 0 (lv_args 0 [.ref 3, .int (a1), .int (a2)]) [] M 0 0 = some r) : r.1 = some (.int ((ma_89_3 N a1 a2 σ).1)) ∧ qa_O r.2 ∧ qa_s r.2 = (ma_89_3 N a1 a2 σ).2 := by
  obtain ⟨lv, el⟩ : ∃ l, l = lv_args 0 [.ref 3, .int (a1), .int (a2)] := ⟨_, rfl⟩
  have g0 : q4_get lv 0 = some (.ref 3) := by rw [el]; rfl
  have g1 : q4_get lv 1 = some (.int (a1)) := by rw [el]; rfl
  have g2 : q4_get lv 2 = some (.int (a2)) := by rw [el]; rfl
  rw [← el] at h
  clear el
  replace h := qa_aload (n := 0) (q := 1) (qa_e rfl h) rfl g0
  replace h := qa_gr (b := 4) (j := 0) (q := 4) (qa_e rfl h) rfl hM rfl (by decide)
  replace h := qa_iload (n := 1) (q := 5) (qa_e rfl h) rfl g1
  obtain ⟨M, h, hM, es⟩ := qa_c1 (y := 33) (as := [.ref 4, .int (a1)]) (rest := []) (i := .invokevirtual 33) (q := 8) (qa_e rfl h) (Or.inl rfl) rfl rfl (by decide) rfl (fun r hc => mb_33_4 hM es hc)
  by_cases c1 : (ma_33_4 a1 σ) = (0 : Int32)
  · replace h := qa_ict (q := 22) (qa_e rfl h) rfl (qa_T_eq c1)
    replace h := qa_aload (n := 0) (q := 23) (qa_e rfl h) rfl g0
    replace h := qa_push (z := (-1 : Int32)) (q := 24) (qa_e rfl h) rfl (by decide)
    obtain ⟨r2, er2⟩ : ∃ x, x = (ma_9_3 (-1 : Int32) σ) := ⟨_, rfl⟩
    obtain ⟨M, h, hM, es⟩ := qa_c1 (y := 9) (as := [.ref 3, .int ((-1 : Int32))]) (rest := []) (i := .invokevirtual 9) (q := 27) (qa_e rfl h) (Or.inl rfl) rfl rfl (by decide) rfl (fun r hc => mb_9_3 hM es hc)
    rw [← er2] at h es
    have er := qa_ri (qa_e rfl h)
    subst er
    have e0 : ma_89_3 N a1 a2 σ = (r2.1, r2.2) := by exact Eq.trans (if_pos c1) (Eq.trans (qa_ie er2) (rfl))
    rw [e0]
    exact ⟨rfl, hM, es⟩
  · replace h := qa_icf (q := 11) (qa_e rfl h) rfl (qa_F_eq c1)
    replace h := qa_aload (n := 0) (q := 12) (qa_e rfl h) rfl g0
    replace h := qa_gr (b := 4) (j := 0) (q := 15) (qa_e rfl h) rfl hM rfl (by decide)
    replace h := qa_iload (n := 2) (q := 16) (qa_e rfl h) rfl g2
    obtain ⟨M, h, hM, es⟩ := qa_c1 (y := 22) (as := [.ref 4, .int (a2)]) (rest := []) (i := .invokevirtual 22) (q := 19) (qa_e rfl h) (Or.inl rfl) rfl rfl (by decide) rfl (fun r hc => mb_22_4 hM es hc)
    by_cases c3 : (ma_22_4 a2 σ) = (0 : Int32)
    · replace h := qa_icf (q := 22) (qa_e rfl h) rfl (qa_F_ne c3)
      replace h := qa_aload (n := 0) (q := 23) (qa_e rfl h) rfl g0
      replace h := qa_push (z := (-1 : Int32)) (q := 24) (qa_e rfl h) rfl (by decide)
      obtain ⟨r4, er4⟩ : ∃ x, x = (ma_9_3 (-1 : Int32) σ) := ⟨_, rfl⟩
      obtain ⟨M, h, hM, es⟩ := qa_c1 (y := 9) (as := [.ref 3, .int ((-1 : Int32))]) (rest := []) (i := .invokevirtual 9) (q := 27) (qa_e rfl h) (Or.inl rfl) rfl rfl (by decide) rfl (fun r hc => mb_9_3 hM es hc)
      rw [← er4] at h es
      have er := qa_ri (qa_e rfl h)
      subst er
      have e0 : ma_89_3 N a1 a2 σ = (r4.1, r4.2) := by exact Eq.trans (if_neg c1) (Eq.trans (if_pos c3) (Eq.trans (qa_ie er4) (rfl)))
      rw [e0]
      exact ⟨rfl, hM, es⟩
    · replace h := qa_ict (q := 28) (qa_e rfl h) rfl (qa_T_ne c3)
      replace h := qa_aload (n := 0) (q := 29) (qa_e rfl h) rfl g0
      replace h := qa_push (z := (1 : Int32)) (q := 30) (qa_e rfl h) rfl (by decide)
      replace h := qa_iload (n := 1) (q := 31) (qa_e rfl h) rfl g1
      replace h := qa_ishl (q := 32) (qa_e rfl h) rfl
      obtain ⟨m5, em5⟩ : ∃ x, x = (ma_65_3 N ((1 : Int32) <<< (a1 &&& 31)) σ) := ⟨_, rfl⟩
      obtain ⟨M, h, hM, es⟩ := qa_c0 (y := 65) (as := [.ref 3, .int (((1 : Int32) <<< (a1 &&& 31)))]) (rest := []) (i := .invokevirtual 65) (q := 35) (qa_e rfl h) (Or.inl rfl) rfl rfl (by decide) rfl (fun r hc => mb_65_3 hN hM es hc)
      rw [← em5] at es
      replace h := qa_aload (n := 0) (q := 36) (qa_e rfl h) rfl g0
      obtain ⟨m6, em6⟩ : ∃ x, x = (ma_72_3 N m5) := ⟨_, rfl⟩
      obtain ⟨M, h, hM, es⟩ := qa_c1 (y := 72) (as := [.ref 3]) (rest := []) (i := .invokevirtual 72) (q := 39) (qa_e rfl h) (Or.inl rfl) rfl rfl (by decide) rfl (fun r hc => mb_72_3 hN hM es hc)
      rw [← em6] at es
      replace h := qa_aload (n := 0) (q := 40) (qa_e rfl h) rfl g0
      replace h := qa_gr (b := 80) (j := 4) (q := 43) (qa_e rfl h) rfl hM rfl (by decide)
      replace h := qa_iload (n := 2) (q := 44) (qa_e rfl h) rfl g2
      obtain ⟨r7, er7⟩ : ∃ x, x = (ma_82_73_80 N a2 m6) := ⟨_, rfl⟩
      obtain ⟨M, h, hM, es⟩ := qa_c1 (y := 82) (as := [.ref 73, .ref 80, .int (a2)]) (rest := []) (i := .invokevirtual 82) (q := 47) (qa_e rfl h) (Or.inl rfl) rfl rfl (by decide) rfl (fun r hc => mb_82_73_80 hN hM es hc)
      rw [← er7] at h
      obtain ⟨lv, h, g, T⟩ := qa_istore (n := 3) (q := 48) (qa_e rfl h) rfl
      replace g0 := T _ _ g0 (by decide) (Or.inr rfl)
      have g3 := g
      clear g T
      replace h := qa_iload (n := 3) (q := 49) (qa_e rfl h) rfl g3
      by_cases c8 : r7 = (0 : Int32)
      · replace h := qa_icf (q := 52) (qa_e rfl h) rfl (qa_F_ne c8)
        replace h := qa_push (z := (2 : Int32)) (q := 53) (qa_e rfl h) rfl (by decide)
        have er := qa_ri (qa_e rfl h)
        subst er
        have e0 : ma_89_3 N a1 a2 σ = ((2 : Int32), m6) := by exact Eq.trans (if_neg c1) (Eq.trans (if_neg c3) (Eq.trans (qa_ie em5) (Eq.trans (qa_ie em6) (Eq.trans (qa_ie er7) (Eq.trans (if_pos c8) (rfl))))))
        rw [e0]
        exact ⟨rfl, hM, es⟩
      · replace h := qa_ict (q := 54) (qa_e rfl h) rfl (qa_T_ne c8)
        replace h := qa_iload (n := 3) (q := 55) (qa_e rfl h) rfl g3
        replace h := qa_aload (n := 0) (q := 56) (qa_e rfl h) rfl g0
        obtain ⟨m9, em9⟩ : ∃ x, x = (ma_72_3 N m6) := ⟨_, rfl⟩
        obtain ⟨M, h, hM, es⟩ := qa_c1 (y := 72) (as := [.ref 3]) (rest := [.int (r7)]) (i := .invokevirtual 72) (q := 59) (qa_e rfl h) (Or.inl rfl) rfl rfl (by decide) rfl (fun r hc => mb_72_3 hN hM es hc)
        rw [← em9] at es
        replace h := qa_aload (n := 0) (q := 60) (qa_e rfl h) rfl g0
        replace h := qa_gr (b := 80) (j := 4) (q := 63) (qa_e rfl h) rfl hM rfl (by decide)
        obtain ⟨r10, er10⟩ : ∃ x, x = (ma_75_73_80 N m9) := ⟨_, rfl⟩
        obtain ⟨M, h, hM, es⟩ := qa_c1 (y := 75) (as := [.ref 73, .ref 80]) (rest := [.int (r7)]) (i := .invokevirtual 75) (q := 66) (qa_e rfl h) (Or.inl rfl) rfl rfl (by decide) rfl (fun r hc => mb_75_73_80 hN hM es hc)
        rw [← er10] at h
        obtain ⟨lv, M, h, hM, es⟩ : ∃ lv M, q4_run f 89 74 lv [.int ((if r7 = r10 then (0 : Int32) else (1 : Int32)))] M 0 0 = some r ∧ qa_O M ∧ qa_s M = m9 := by
          by_cases c11 : r7 = r10
          · replace h := qa_iff (q := 69) (qa_e rfl h) rfl (qa_F_ne c11)
            replace h := qa_push (z := (0 : Int32)) (q := 70) (qa_e rfl h) rfl (by decide)
            replace h := qa_goto (q := 74) (qa_e rfl h) rfl
            exact ⟨lv, M, (qa_hi1 c11 h), hM, es⟩
          · replace h := qa_ift (q := 73) (qa_e rfl h) rfl (qa_T_ne c11)
            replace h := qa_push (z := (1 : Int32)) (q := 74) (qa_e rfl h) rfl (by decide)
            exact ⟨lv, M, (qa_hi0 c11 h), hM, es⟩
        have er := qa_ri (qa_e rfl h)
        subst er
        have e0 : ma_89_3 N a1 a2 σ = ((if r7 = r10 then (0 : Int32) else (1 : Int32)), m9) := by exact Eq.trans (if_neg c1) (Eq.trans (if_neg c3) (Eq.trans (qa_ie em5) (Eq.trans (qa_ie em6) (Eq.trans (qa_ie er7) (Eq.trans (if_neg c8) (Eq.trans (qa_ie em9) (Eq.trans (qa_ie er10) (rfl))))))))
        rw [e0]
        exact ⟨rfl, hM, es⟩
noncomputable def mc_90_3_p20 (N : Nat) (l1 : Int32) (l3 : Int32) (σ : qa_S) (s : Int32 × Int32) : (Int32 × Int32) ⊕ (Int32 × Int32) :=
  if s.1 < l1 then
    qa_in ((ma_61_3 N s.1 σ)) fun r3 =>
    .inl ((s.1 + (1 : Int32)), (if (ma_63 s.1) < (ma_63 s.2) then (if r3 = l3 then s.1 else s.2) else s.2))
  else
    .inr (s.1, s.2)
theorem md_90_3_p20 {N F : Nat} {r : Option Value × q4_M} {l1 : Int32} {l3 : Int32} {σ : qa_S} (hN : F ≤ N) : ∀ f n, f ≤ n → f ≤ F → ∀ (s : Int32 × Int32) (lv : List (Nat × Value)) (M : q4_M), qa_O M → qa_s M = σ → q4_get lv 0 = some (.ref 3) → q4_get lv 1 = some (.int (l1)) → q4_get lv 2 = some (.int (s.2)) → q4_get lv 3 = some (.int (l3)) → q4_get lv 4 = some (.int (s.1)) → q4_run f 90 20 lv [] M 0 0 = some r → ∃ lv M, q4_run F 90 57 lv [] M 0 0 = some r ∧ qa_O M ∧ qa_s M = σ ∧ q4_get lv 2 = some (.int ((qa_wh (fun s => s) (mc_90_3_p20 N l1 l3 σ) n s).2)) := by
  intro f
  induction f with
  | zero => intro n _ _ s lv M hM es _ _ _ _ _ h; cases h
  | succ f ih =>
    intro n hn hF s lv M hM es g0 g1 g2 g3 g4 h
    obtain ⟨n, rfl⟩ : ∃ n1, n = n1 + 1 := ⟨n - 1, by omega⟩
    replace hn : f ≤ n := Nat.le_of_succ_le_succ hn
    have hN := Nat.le_trans (Nat.le_of_succ_le hF) hN
    replace h := qa_iload (n := 4) (q := 22) (qa_d rfl h) rfl g4
    replace h := qa_iload (n := 1) (q := 23) (qa_e rfl h) rfl g1
    by_cases c1 : s.1 < l1
    · replace h := qa_iff (q := 26) (qa_e rfl h) rfl (qa_F_ge c1)
      replace h := qa_iload (n := 4) (q := 28) (qa_e rfl h) rfl g4
      obtain ⟨M, h, hM, es⟩ := qa_c1 (y := 63) (as := [.int (s.1)]) (rest := []) (i := .invokestatic 63) (q := 31) (qa_e rfl h) (Or.inr rfl) rfl rfl (by decide) rfl (fun r hc => mb_63 hM es hc)
      replace h := qa_iload (n := 2) (q := 32) (qa_e rfl h) rfl g2
      obtain ⟨M, h, hM, es⟩ := qa_c1 (y := 63) (as := [.int (s.2)]) (rest := [.int ((ma_63 s.1))]) (i := .invokestatic 63) (q := 35) (qa_e rfl h) (Or.inr rfl) rfl rfl (by decide) rfl (fun r hc => mb_63 hM es hc)
      obtain ⟨r3, er3⟩ : ∃ x, x = (ma_61_3 N s.1 σ) := ⟨_, rfl⟩
      obtain ⟨lv, M, h, hM, es, g0, g1, g2, g3, g4⟩ : ∃ lv M, q4_run f 90 51 lv [] M 0 0 = some r ∧ qa_O M ∧ qa_s M = σ ∧ q4_get lv 0 = some (.ref 3) ∧ q4_get lv 1 = some (.int (l1)) ∧ q4_get lv 2 = some (.int ((if (ma_63 s.1) < (ma_63 s.2) then (if r3 = l3 then s.1 else s.2) else s.2))) ∧ q4_get lv 3 = some (.int (l3)) ∧ q4_get lv 4 = some (.int (s.1)) := by
        by_cases c2 : (ma_63 s.1) < (ma_63 s.2)
        · replace h := qa_iff (q := 38) (qa_e rfl h) rfl (qa_F_ge c2)
          replace h := qa_aload (n := 0) (q := 39) (qa_e rfl h) rfl g0
          replace h := qa_iload (n := 4) (q := 41) (qa_e rfl h) rfl g4
          obtain ⟨M, h, hM, es⟩ := qa_c1 (y := 61) (as := [.ref 3, .int (s.1)]) (rest := []) (i := .invokevirtual 61) (q := 44) (qa_e rfl h) (Or.inl rfl) rfl rfl (by decide) rfl (fun r hc => mb_61_3 hN hM es hc)
          rw [← er3] at h
          replace h := qa_iload (n := 3) (q := 45) (qa_e rfl h) rfl g3
          obtain ⟨lv, M, h, hM, es, g0, g1, g2, g3, g4⟩ : ∃ lv M, q4_run f 90 51 lv [] M 0 0 = some r ∧ qa_O M ∧ qa_s M = σ ∧ q4_get lv 0 = some (.ref 3) ∧ q4_get lv 1 = some (.int (l1)) ∧ q4_get lv 2 = some (.int ((if r3 = l3 then s.1 else s.2))) ∧ q4_get lv 3 = some (.int (l3)) ∧ q4_get lv 4 = some (.int (s.1)) := by
            by_cases c4 : r3 = l3
            · replace h := qa_iff (q := 48) (qa_e rfl h) rfl (qa_F_ne c4)
              replace h := qa_iload (n := 4) (q := 50) (qa_e rfl h) rfl g4
              obtain ⟨lv, h, g, T⟩ := qa_istore (n := 2) (q := 51) (qa_e rfl h) rfl
              replace g0 := T _ _ g0 (by decide) (Or.inr rfl)
              replace g1 := T _ _ g1 (by decide) (Or.inr rfl)
              replace g3 := T _ _ g3 (by decide) (Or.inr rfl)
              replace g4 := T _ _ g4 (by decide) (Or.inr rfl)
              have g2 := g
              clear g T
              exact ⟨lv, M, h, hM, es, g0, g1, (qa_gi1 c4 g2), g3, g4⟩
            · replace h := qa_ift (q := 51) (qa_e rfl h) rfl (qa_T_ne c4)
              exact ⟨lv, M, h, hM, es, g0, g1, (qa_gi0 c4 g2), g3, g4⟩
          exact ⟨lv, M, h, hM, es, g0, g1, (qa_gi1 c2 g2), g3, g4⟩
        · replace h := qa_ift (q := 51) (qa_e rfl h) rfl (qa_T_ge c2)
          exact ⟨lv, M, h, hM, es, g0, g1, (qa_gi0 c2 g2), g3, g4⟩
      obtain ⟨lv, h, g, T⟩ := qa_iinc (n := 4) (z := (1 : Int32)) (q := 54) (qa_e rfl h) rfl (by decide) g4
      replace g0 := T _ _ g0 (by decide) (Or.inr rfl)
      replace g1 := T _ _ g1 (by decide) (Or.inr rfl)
      replace g2 := T _ _ g2 (by decide) (Or.inr rfl)
      replace g3 := T _ _ g3 (by decide) (Or.inr rfl)
      replace g4 := g
      clear g T
      replace h := qa_goto (q := 20) (qa_e rfl h) rfl
      have e0 : mc_90_3_p20 N l1 l3 σ s = .inl ((s.1 + (1 : Int32)), (if (ma_63 s.1) < (ma_63 s.2) then (if r3 = l3 then s.1 else s.2) else s.2)) := by exact Eq.trans (if_pos c1) (Eq.trans (qa_ie er3) (rfl))
      rw [qa_whl e0]
      exact ih n hn (Nat.le_of_succ_le hF) ((s.1 + (1 : Int32)), (if (ma_63 s.1) < (ma_63 s.2) then (if r3 = l3 then s.1 else s.2) else s.2)) _ _ hM es g0 g1 g2 g3 g4 h
    · replace h := qa_ift (q := 57) (qa_e rfl h) rfl (qa_T_ge c1)
      have e0 : mc_90_3_p20 N l1 l3 σ s = .inr (s.1, s.2) := by exact Eq.trans (if_neg c1) (rfl)
      rw [qa_whr e0]
      exact ⟨_, _, q61_mono f F _ _ _ _ _ _ _ _ (Nat.le_of_succ_le hF) h, hM, es, g2⟩
/-- BuriedBySevens, team, ()I -/
noncomputable def ma_90_3 (N : Nat) (σ : qa_S) : Int32 × qa_S :=
  qa_in ((ma_58_3 N σ)) fun m1 =>
  qa_in ((ma_61_3 N (ma_60_3 m1) m1)) fun r2 =>
  qa_in ((qa_wh (fun s => s) (mc_90_3_p20 N (ma_60_3 m1) r2 m1) N ((0 : Int32), (ma_60_3 m1)))) fun r3 =>
  (r3.2, m1)
theorem mb_90_3 {f N : Nat} (hN : f ≤ N) {M : q4_M} {r : Option Value × q4_M} {σ : qa_S} (hM : qa_O M) (es : qa_s M = σ) (h : q4_run f 90 0 (lv_args 0 [.ref 3]) [] M 0 0 = some r) : r.1 = some (.int ((ma_90_3 N σ).1)) ∧ qa_O r.2 ∧ qa_s r.2 = (ma_90_3 N σ).2 := by
  obtain ⟨lv, el⟩ : ∃ l, l = lv_args 0 [.ref 3] := ⟨_, rfl⟩
  have g0 : q4_get lv 0 = some (.ref 3) := by rw [el]; rfl
  rw [← el] at h
  clear el
  replace h := qa_aload (n := 0) (q := 1) (qa_e rfl h) rfl g0
  obtain ⟨m1, em1⟩ : ∃ x, x = (ma_58_3 N σ) := ⟨_, rfl⟩
  obtain ⟨M, h, hM, es⟩ := qa_c0 (y := 58) (as := [.ref 3]) (rest := []) (i := .invokevirtual 58) (q := 4) (qa_e rfl h) (Or.inl rfl) rfl rfl (by decide) rfl (fun r hc => mb_58_3 hN hM es hc)
  rw [← em1] at es
  replace h := qa_aload (n := 0) (q := 5) (qa_e rfl h) rfl g0
  obtain ⟨M, h, hM, es⟩ := qa_c1 (y := 60) (as := [.ref 3]) (rest := []) (i := .invokevirtual 60) (q := 8) (qa_e rfl h) (Or.inl rfl) rfl rfl (by decide) rfl (fun r hc => mb_60_3 hM es hc)
  obtain ⟨lv, h, g, T⟩ := qa_istore (n := 1) (q := 9) (qa_e rfl h) rfl
  replace g0 := T _ _ g0 (by decide) (Or.inr rfl)
  have g1 := g
  clear g T
  replace h := qa_iload (n := 1) (q := 10) (qa_e rfl h) rfl g1
  obtain ⟨lv, h, g, T⟩ := qa_istore (n := 2) (q := 11) (qa_e rfl h) rfl
  replace g0 := T _ _ g0 (by decide) (Or.inr rfl)
  replace g1 := T _ _ g1 (by decide) (Or.inr rfl)
  have g2 := g
  clear g T
  replace h := qa_aload (n := 0) (q := 12) (qa_e rfl h) rfl g0
  replace h := qa_iload (n := 1) (q := 13) (qa_e rfl h) rfl g1
  obtain ⟨r2, er2⟩ : ∃ x, x = (ma_61_3 N (ma_60_3 m1) m1) := ⟨_, rfl⟩
  obtain ⟨M, h, hM, es⟩ := qa_c1 (y := 61) (as := [.ref 3, .int ((ma_60_3 m1))]) (rest := []) (i := .invokevirtual 61) (q := 16) (qa_e rfl h) (Or.inl rfl) rfl rfl (by decide) rfl (fun r hc => mb_61_3 hN hM es hc)
  rw [← er2] at h
  obtain ⟨lv, h, g, T⟩ := qa_istore (n := 3) (q := 17) (qa_e rfl h) rfl
  replace g0 := T _ _ g0 (by decide) (Or.inr rfl)
  replace g1 := T _ _ g1 (by decide) (Or.inr rfl)
  replace g2 := T _ _ g2 (by decide) (Or.inr rfl)
  have g3 := g
  clear g T
  replace h := qa_push (z := (0 : Int32)) (q := 18) (qa_e rfl h) rfl (by decide)
  obtain ⟨lv, h, g, T⟩ := qa_istore (n := 4) (q := 20) (qa_e rfl h) rfl
  replace g0 := T _ _ g0 (by decide) (Or.inr rfl)
  replace g1 := T _ _ g1 (by decide) (Or.inr rfl)
  replace g2 := T _ _ g2 (by decide) (Or.inr rfl)
  replace g3 := T _ _ g3 (by decide) (Or.inr rfl)
  have g4 := g
  clear g T
  obtain ⟨r3, er3⟩ : ∃ x, x = (qa_wh (fun s => s) (mc_90_3_p20 N (ma_60_3 m1) r2 m1) N ((0 : Int32), (ma_60_3 m1))) := ⟨_, rfl⟩
  have L := md_90_3_p20 (l1 := (ma_60_3 m1)) (l3 := r2) (σ := m1) (F := f) (N := N) (r := r) hN f N hN (Nat.le_refl f) ((0 : Int32), (ma_60_3 m1)) _ _ hM es g0 g1 g2 g3 g4 h
  rw [← er3] at L
  obtain ⟨lv, M, h, hM, es, g2⟩ := L
  replace h := qa_iload (n := 2) (q := 58) (qa_e rfl h) rfl g2
  have er := qa_ri (qa_e rfl h)
  subst er
  have e0 : ma_90_3 N σ = (r3.2, m1) := by exact Eq.trans (qa_ie em1) (Eq.trans (qa_ie er2) (Eq.trans (qa_ie er3) (rfl)))
  rw [e0]
  exact ⟨rfl, hM, es⟩
noncomputable def mc_93_89_p12 (N : Nat) (s : Int32 × qa_S) : (Int32 × qa_S) ⊕ (Int32 × qa_S) :=
  if s.1 < (6 : Int32) then
    qa_in (qa_u s.2 90 s.1.toNatClampNeg s.1) fun m2 =>
    .inl ((s.1 + (1 : Int32)), m2)
  else
    .inr (s.1, s.2)
theorem md_93_89_p12 {N F : Nat} {r : Option Value × q4_M} (hN : F ≤ N) : ∀ f n, f ≤ n → f ≤ F → ∀ (s : Int32 × qa_S) (lv : List (Nat × Value)) (M : q4_M), qa_O M → qa_s M = s.2 → q4_get lv 0 = some (.ref 89) → q4_get lv 2 = some (.int (s.1)) → q4_run f 93 12 lv [] M 0 0 = some r → ∃ lv M, q4_run F 93 31 lv [] M 0 0 = some r ∧ qa_O M ∧ qa_s M = (qa_wh (fun s => s) (mc_93_89_p12 N) n s).2 := by
  intro f
  induction f with
  | zero => intro n _ _ s lv M hM es _ _ h; cases h
  | succ f ih =>
    intro n hn hF s lv M hM es g0 g2 h
    obtain ⟨n, rfl⟩ : ∃ n1, n = n1 + 1 := ⟨n - 1, by omega⟩
    replace hn : f ≤ n := Nat.le_of_succ_le_succ hn
    have hN := Nat.le_trans (Nat.le_of_succ_le hF) hN
    replace h := qa_iload (n := 2) (q := 13) (qa_d rfl h) rfl g2
    replace h := qa_push (z := (6 : Int32)) (q := 15) (qa_e rfl h) rfl (by decide)
    by_cases c1 : s.1 < (6 : Int32)
    · replace h := qa_iff (q := 18) (qa_e rfl h) rfl (qa_F_ge c1)
      replace h := qa_aload (n := 0) (q := 19) (qa_e rfl h) rfl g0
      replace h := qa_gr (b := 90) (j := 1) (q := 22) (qa_e rfl h) rfl hM rfl (by decide)
      replace h := qa_iload (n := 2) (q := 23) (qa_e rfl h) rfl g2
      replace h := qa_iload (n := 2) (q := 24) (qa_e rfl h) rfl g2
      obtain ⟨m2, em2⟩ : ∃ x, x = qa_u s.2 90 s.1.toNatClampNeg s.1 := ⟨_, rfl⟩
      obtain ⟨M, h, hM, es⟩ := qa_iastore (jn := s.1.toNatClampNeg) (q := 25) (qa_e rfl h) rfl hM es rfl
      rw [← em2] at es
      obtain ⟨lv, h, g, T⟩ := qa_iinc (n := 2) (z := (1 : Int32)) (q := 28) (qa_e rfl h) rfl (by decide) g2
      replace g0 := T _ _ g0 (by decide) (Or.inr rfl)
      replace g2 := g
      clear g T
      replace h := qa_goto (q := 12) (qa_e rfl h) rfl
      have e0 : mc_93_89_p12 N s = .inl ((s.1 + (1 : Int32)), m2) := by exact Eq.trans (if_pos c1) (Eq.trans (qa_ie em2) (rfl))
      rw [qa_whl e0]
      exact ih n hn (Nat.le_of_succ_le hF) ((s.1 + (1 : Int32)), m2) _ _ hM es g0 g2 h
    · replace h := qa_ift (q := 31) (qa_e rfl h) rfl (qa_T_ge c1)
      have e0 : mc_93_89_p12 N s = .inr (s.1, s.2) := by exact Eq.trans (if_neg c1) (rfl)
      rw [qa_whr e0]
      exact ⟨_, _, q61_mono f F _ _ _ _ _ _ _ _ (Nat.le_of_succ_le hF) h, hM, es⟩
/-- BuriedBySevens$Line, start, (I)V -/
noncomputable def ma_93_89 (N : Nat) (a1 : Int32) (σ : qa_S) : qa_S :=
  qa_in (qa_u σ 89 0 (ma_71 a1 (6 : Int32))) fun m1 =>
  qa_in ((qa_wh (fun s => s) (mc_93_89_p12 N) N ((0 : Int32), m1))) fun r2 =>
  r2.2
theorem mb_93_89 {f N : Nat} (hN : f ≤ N) {M : q4_M} {r : Option Value × q4_M} {σ : qa_S} {a1 : Int32} (hM : qa_O M) (es : qa_s M = σ) (h : q4_run f 93 0 (lv_args 0 [.ref 89, .int (a1)]) [] M 0 0 = some r) : r.1 = none ∧ qa_O r.2 ∧ qa_s r.2 = (ma_93_89 N a1 σ) := by
  obtain ⟨lv, el⟩ : ∃ l, l = lv_args 0 [.ref 89, .int (a1)] := ⟨_, rfl⟩
  have g0 : q4_get lv 0 = some (.ref 89) := by rw [el]; rfl
  have g1 : q4_get lv 1 = some (.int (a1)) := by rw [el]; rfl
  rw [← el] at h
  clear el
  replace h := qa_aload (n := 0) (q := 1) (qa_e rfl h) rfl g0
  replace h := qa_iload (n := 1) (q := 2) (qa_e rfl h) rfl g1
  replace h := qa_push (z := (6 : Int32)) (q := 4) (qa_e rfl h) rfl (by decide)
  obtain ⟨M, h, hM, es⟩ := qa_c1 (y := 71) (as := [.int (a1), .int ((6 : Int32))]) (rest := [.ref 89]) (i := .invokestatic 71) (q := 7) (qa_e rfl h) (Or.inr rfl) rfl rfl (by decide) rfl (fun r hc => mb_71 hM es hc)
  obtain ⟨m1, em1⟩ : ∃ x, x = qa_u σ 89 0 (ma_71 a1 (6 : Int32)) := ⟨_, rfl⟩
  obtain ⟨M, h, hM, es⟩ := qa_pf (j := 0) (q := 10) (qa_e rfl h) rfl hM es rfl (by decide)
  rw [← em1] at es
  replace h := qa_push (z := (0 : Int32)) (q := 11) (qa_e rfl h) rfl (by decide)
  obtain ⟨lv, h, g, T⟩ := qa_istore (n := 2) (q := 12) (qa_e rfl h) rfl
  replace g0 := T _ _ g0 (by decide) (Or.inr rfl)
  have g2 := g
  clear g T
  obtain ⟨r2, er2⟩ : ∃ x, x = (qa_wh (fun s => s) (mc_93_89_p12 N) N ((0 : Int32), m1)) := ⟨_, rfl⟩
  have L := md_93_89_p12 (F := f) (N := N) (r := r) hN f N hN (Nat.le_refl f) ((0 : Int32), m1) _ _ hM es g0 g2 h
  rw [← er2] at L
  obtain ⟨lv, M, h, hM, es⟩ := L
  have er := qa_rv (qa_e rfl h)
  subst er
  have e0 : ma_93_89 N a1 σ = r2.2 := by exact Eq.trans (qa_ie em1) (Eq.trans (qa_ie er2) (rfl))
  rw [e0]
  exact ⟨rfl, hM, es⟩
noncomputable def mc_95_4_p4 (N : Nat) (l1 : Int32) (σ : qa_S) (s : Int32 × Int32) : (Int32 × Int32) ⊕ (Int32 × Int32) :=
  if s.1 < (4 : Int32) then
    .inl ((s.1 + (1 : Int32)), (s.2 + (σ (17 + l1.toNatClampNeg) s.1.toNatClampNeg)))
  else
    .inr (s.1, s.2)
theorem md_95_4_p4 {N F : Nat} {r : Option Value × q4_M} {l1 : Int32} {σ : qa_S} (hN : F ≤ N) : ∀ f n, f ≤ n → f ≤ F → ∀ (s : Int32 × Int32) (lv : List (Nat × Value)) (M : q4_M), qa_O M → qa_s M = σ → q4_get lv 0 = some (.ref 4) → q4_get lv 1 = some (.int (l1)) → q4_get lv 2 = some (.int (s.2)) → q4_get lv 3 = some (.int (s.1)) → q4_run f 95 4 lv [] M 0 0 = some r → ∃ lv M, q4_run F 95 26 lv [] M 0 0 = some r ∧ qa_O M ∧ qa_s M = σ ∧ q4_get lv 2 = some (.int ((qa_wh (fun s => s) (mc_95_4_p4 N l1 σ) n s).2)) := by
  intro f
  induction f with
  | zero => intro n _ _ s lv M hM es _ _ _ _ h; cases h
  | succ f ih =>
    intro n hn hF s lv M hM es g0 g1 g2 g3 h
    obtain ⟨n, rfl⟩ : ∃ n1, n = n1 + 1 := ⟨n - 1, by omega⟩
    replace hn : f ≤ n := Nat.le_of_succ_le_succ hn
    have hN := Nat.le_trans (Nat.le_of_succ_le hF) hN
    replace h := qa_iload (n := 3) (q := 5) (qa_d rfl h) rfl g3
    replace h := qa_push (z := (4 : Int32)) (q := 6) (qa_e rfl h) rfl (by decide)
    by_cases c1 : s.1 < (4 : Int32)
    · replace h := qa_iff (q := 9) (qa_e rfl h) rfl (qa_F_ge c1)
      replace h := qa_iload (n := 2) (q := 10) (qa_e rfl h) rfl g2
      replace h := qa_aload (n := 0) (q := 11) (qa_e rfl h) rfl g0
      replace h := qa_gr (b := 16) (j := 6) (q := 14) (qa_e rfl h) rfl hM rfl (by decide)
      replace h := qa_iload (n := 1) (q := 15) (qa_e rfl h) rfl g1
      replace h := qa_aaload (b := 17) (jn := l1.toNatClampNeg) (q := 16) (qa_e rfl h) rfl hM rfl (by decide) (by decide +kernel)
      replace h := qa_iload (n := 3) (q := 17) (qa_e rfl h) rfl g3
      replace h := qa_iaload (jn := s.1.toNatClampNeg) (q := 18) (qa_e rfl h) rfl hM es rfl
      replace h := qa_iadd (q := 19) (qa_e rfl h) rfl
      obtain ⟨lv, h, g, T⟩ := qa_istore (n := 2) (q := 20) (qa_e rfl h) rfl
      replace g0 := T _ _ g0 (by decide) (Or.inr rfl)
      replace g1 := T _ _ g1 (by decide) (Or.inr rfl)
      replace g3 := T _ _ g3 (by decide) (Or.inr rfl)
      have g2 := g
      clear g T
      obtain ⟨lv, h, g, T⟩ := qa_iinc (n := 3) (z := (1 : Int32)) (q := 23) (qa_e rfl h) rfl (by decide) g3
      replace g0 := T _ _ g0 (by decide) (Or.inr rfl)
      replace g1 := T _ _ g1 (by decide) (Or.inr rfl)
      replace g2 := T _ _ g2 (by decide) (Or.inr rfl)
      replace g3 := g
      clear g T
      replace h := qa_goto (q := 4) (qa_e rfl h) rfl
      have e0 : mc_95_4_p4 N l1 σ s = .inl ((s.1 + (1 : Int32)), (s.2 + (σ (17 + l1.toNatClampNeg) s.1.toNatClampNeg))) := by exact Eq.trans (if_pos c1) (rfl)
      rw [qa_whl e0]
      exact ih n hn (Nat.le_of_succ_le hF) ((s.1 + (1 : Int32)), (s.2 + (σ (17 + l1.toNatClampNeg) s.1.toNatClampNeg))) _ _ hM es g0 g1 g2 g3 h
    · replace h := qa_ift (q := 26) (qa_e rfl h) rfl (qa_T_ge c1)
      have e0 : mc_95_4_p4 N l1 σ s = .inr (s.1, s.2) := by exact Eq.trans (if_neg c1) (rfl)
      rw [qa_whr e0]
      exact ⟨_, _, q61_mono f F _ _ _ _ _ _ _ _ (Nat.le_of_succ_le hF) h, hM, es, g2⟩
/-- BuriedBySevens$Cellar, weight, (I)I -/
noncomputable def ma_95_4 (N : Nat) (a1 : Int32) (σ : qa_S) : Int32 :=
  qa_in ((qa_wh (fun s => s) (mc_95_4_p4 N a1 σ) N ((0 : Int32), (0 : Int32)))) fun r1 =>
  r1.2
theorem mb_95_4 {f N : Nat} (hN : f ≤ N) {M : q4_M} {r : Option Value × q4_M} {σ : qa_S} {a1 : Int32} (hM : qa_O M) (es : qa_s M = σ) (h : q4_run f 95 0 (lv_args 0 [.ref 4, .int (a1)]) [] M 0 0 = some r) : r.1 = some (.int ((ma_95_4 N a1 σ))) ∧ qa_O r.2 ∧ qa_s r.2 = σ := by
  obtain ⟨lv, el⟩ : ∃ l, l = lv_args 0 [.ref 4, .int (a1)] := ⟨_, rfl⟩
  have g0 : q4_get lv 0 = some (.ref 4) := by rw [el]; rfl
  have g1 : q4_get lv 1 = some (.int (a1)) := by rw [el]; rfl
  rw [← el] at h
  clear el
  replace h := qa_push (z := (0 : Int32)) (q := 1) (qa_e rfl h) rfl (by decide)
  obtain ⟨lv, h, g, T⟩ := qa_istore (n := 2) (q := 2) (qa_e rfl h) rfl
  replace g0 := T _ _ g0 (by decide) (Or.inr rfl)
  replace g1 := T _ _ g1 (by decide) (Or.inr rfl)
  have g2 := g
  clear g T
  replace h := qa_push (z := (0 : Int32)) (q := 3) (qa_e rfl h) rfl (by decide)
  obtain ⟨lv, h, g, T⟩ := qa_istore (n := 3) (q := 4) (qa_e rfl h) rfl
  replace g0 := T _ _ g0 (by decide) (Or.inr rfl)
  replace g1 := T _ _ g1 (by decide) (Or.inr rfl)
  replace g2 := T _ _ g2 (by decide) (Or.inr rfl)
  have g3 := g
  clear g T
  obtain ⟨r1, er1⟩ : ∃ x, x = (qa_wh (fun s => s) (mc_95_4_p4 N a1 σ) N ((0 : Int32), (0 : Int32))) := ⟨_, rfl⟩
  have L := md_95_4_p4 (l1 := a1) (σ := σ) (F := f) (N := N) (r := r) hN f N hN (Nat.le_refl f) ((0 : Int32), (0 : Int32)) _ _ hM es g0 g1 g2 g3 h
  rw [← er1] at L
  obtain ⟨lv, M, h, hM, es, g2⟩ := L
  replace h := qa_iload (n := 2) (q := 27) (qa_e rfl h) rfl g2
  have er := qa_ri (qa_e rfl h)
  subst er
  have e0 : ma_95_4 N a1 σ = r1.2 := by exact Eq.trans (qa_ie er1) (rfl)
  rw [e0]
  exact ⟨rfl, hM, es⟩
noncomputable def mc_94_3_p4 (N : Nat) (l1 : Int32) (σ : qa_S) (s : Int32 × Int32) : (Int32 × Int32) ⊕ (Int32 × Int32) :=
  if s.1 < (σ 89 0) then
    qa_in ((ma_95_4 N (σ 90 s.1.toNatClampNeg) σ)) fun r2 =>
    .inl ((s.1 + (1 : Int32)), (s.2 + (ma_70 (0 : Int32) (((((σ 89 0) - (1 : Int32)) - s.1) * r2) - (l1 * s.1)))))
  else
    .inr (s.1, s.2)
theorem md_94_3_p4 {N F : Nat} {r : Option Value × q4_M} {l1 : Int32} {σ : qa_S} (hN : F ≤ N) : ∀ f n, f ≤ n → f ≤ F → ∀ (s : Int32 × Int32) (lv : List (Nat × Value)) (M : q4_M), qa_O M → qa_s M = σ → q4_get lv 0 = some (.ref 3) → q4_get lv 1 = some (.int (l1)) → q4_get lv 2 = some (.int (s.2)) → q4_get lv 3 = some (.int (s.1)) → q4_run f 94 4 lv [] M 0 0 = some r → ∃ lv M, q4_run F 94 64 lv [] M 0 0 = some r ∧ qa_O M ∧ qa_s M = σ ∧ q4_get lv 2 = some (.int ((qa_wh (fun s => s) (mc_94_3_p4 N l1 σ) n s).2)) := by
  intro f
  induction f with
  | zero => intro n _ _ s lv M hM es _ _ _ _ h; cases h
  | succ f ih =>
    intro n hn hF s lv M hM es g0 g1 g2 g3 h
    obtain ⟨n, rfl⟩ : ∃ n1, n = n1 + 1 := ⟨n - 1, by omega⟩
    replace hn : f ≤ n := Nat.le_of_succ_le_succ hn
    have hN := Nat.le_trans (Nat.le_of_succ_le hF) hN
    replace h := qa_iload (n := 3) (q := 5) (qa_d rfl h) rfl g3
    replace h := qa_aload (n := 0) (q := 6) (qa_e rfl h) rfl g0
    replace h := qa_gr (b := 89) (j := 7) (q := 9) (qa_e rfl h) rfl hM rfl (by decide)
    replace h := qa_gi (j := 0) (q := 12) (qa_e rfl h) rfl hM es rfl (by decide)
    by_cases c1 : s.1 < (σ 89 0)
    · replace h := qa_iff (q := 15) (qa_e rfl h) rfl (qa_F_ge c1)
      replace h := qa_aload (n := 0) (q := 16) (qa_e rfl h) rfl g0
      replace h := qa_gr (b := 89) (j := 7) (q := 19) (qa_e rfl h) rfl hM rfl (by decide)
      replace h := qa_gi (j := 0) (q := 22) (qa_e rfl h) rfl hM es rfl (by decide)
      replace h := qa_push (z := (1 : Int32)) (q := 23) (qa_e rfl h) rfl (by decide)
      replace h := qa_isub (q := 24) (qa_e rfl h) rfl
      replace h := qa_iload (n := 3) (q := 25) (qa_e rfl h) rfl g3
      replace h := qa_isub (q := 26) (qa_e rfl h) rfl
      obtain ⟨lv, h, g, T⟩ := qa_istore (n := 4) (q := 28) (qa_e rfl h) rfl
      replace g0 := T _ _ g0 (by decide) (Or.inr rfl)
      replace g1 := T _ _ g1 (by decide) (Or.inr rfl)
      replace g2 := T _ _ g2 (by decide) (Or.inr rfl)
      replace g3 := T _ _ g3 (by decide) (Or.inr rfl)
      have g4 := g
      clear g T
      replace h := qa_iload (n := 2) (q := 29) (qa_e rfl h) rfl g2
      replace h := qa_push (z := (0 : Int32)) (q := 30) (qa_e rfl h) rfl (by decide)
      replace h := qa_iload (n := 4) (q := 32) (qa_e rfl h) rfl g4
      replace h := qa_aload (n := 0) (q := 33) (qa_e rfl h) rfl g0
      replace h := qa_gr (b := 4) (j := 0) (q := 36) (qa_e rfl h) rfl hM rfl (by decide)
      replace h := qa_aload (n := 0) (q := 37) (qa_e rfl h) rfl g0
      replace h := qa_gr (b := 89) (j := 7) (q := 40) (qa_e rfl h) rfl hM rfl (by decide)
      replace h := qa_gr (b := 90) (j := 1) (q := 43) (qa_e rfl h) rfl hM rfl (by decide)
      replace h := qa_iload (n := 3) (q := 44) (qa_e rfl h) rfl g3
      replace h := qa_iaload (jn := s.1.toNatClampNeg) (q := 45) (qa_e rfl h) rfl hM es rfl
      obtain ⟨r2, er2⟩ : ∃ x, x = (ma_95_4 N (σ 90 s.1.toNatClampNeg) σ) := ⟨_, rfl⟩
      obtain ⟨M, h, hM, es⟩ := qa_c1 (y := 95) (as := [.ref 4, .int ((σ 90 s.1.toNatClampNeg))]) (rest := [.int ((((σ 89 0) - (1 : Int32)) - s.1)), .int ((0 : Int32)), .int (s.2)]) (i := .invokevirtual 95) (q := 48) (qa_e rfl h) (Or.inl rfl) rfl rfl (by decide) rfl (fun r hc => mb_95_4 hN hM es hc)
      rw [← er2] at h
      replace h := qa_imul (q := 49) (qa_e rfl h) rfl
      replace h := qa_iload (n := 1) (q := 50) (qa_e rfl h) rfl g1
      replace h := qa_iload (n := 3) (q := 51) (qa_e rfl h) rfl g3
      replace h := qa_imul (q := 52) (qa_e rfl h) rfl
      replace h := qa_isub (q := 53) (qa_e rfl h) rfl
      obtain ⟨M, h, hM, es⟩ := qa_c1 (y := 70) (as := [.int ((0 : Int32)), .int ((((((σ 89 0) - (1 : Int32)) - s.1) * r2) - (l1 * s.1)))]) (rest := [.int (s.2)]) (i := .invokestatic 70) (q := 56) (qa_e rfl h) (Or.inr rfl) rfl rfl (by decide) rfl (fun r hc => mb_70 hM es hc)
      replace h := qa_iadd (q := 57) (qa_e rfl h) rfl
      obtain ⟨lv, h, g, T⟩ := qa_istore (n := 2) (q := 58) (qa_e rfl h) rfl
      replace g0 := T _ _ g0 (by decide) (Or.inr rfl)
      replace g1 := T _ _ g1 (by decide) (Or.inr rfl)
      replace g3 := T _ _ g3 (by decide) (Or.inr rfl)
      have g2 := g
      clear g T
      obtain ⟨lv, h, g, T⟩ := qa_iinc (n := 3) (z := (1 : Int32)) (q := 61) (qa_e rfl h) rfl (by decide) g3
      replace g0 := T _ _ g0 (by decide) (Or.inr rfl)
      replace g1 := T _ _ g1 (by decide) (Or.inr rfl)
      replace g2 := T _ _ g2 (by decide) (Or.inr rfl)
      replace g3 := g
      clear g T
      replace h := qa_goto (q := 4) (qa_e rfl h) rfl
      have e0 : mc_94_3_p4 N l1 σ s = .inl ((s.1 + (1 : Int32)), (s.2 + (ma_70 (0 : Int32) (((((σ 89 0) - (1 : Int32)) - s.1) * r2) - (l1 * s.1))))) := by exact Eq.trans (if_pos c1) (Eq.trans (qa_ie er2) (rfl))
      rw [qa_whl e0]
      exact ih n hn (Nat.le_of_succ_le hF) ((s.1 + (1 : Int32)), (s.2 + (ma_70 (0 : Int32) (((((σ 89 0) - (1 : Int32)) - s.1) * r2) - (l1 * s.1))))) _ _ hM es g0 g1 g2 g3 h
    · replace h := qa_ift (q := 64) (qa_e rfl h) rfl (qa_T_ge c1)
      have e0 : mc_94_3_p4 N l1 σ s = .inr (s.1, s.2) := by exact Eq.trans (if_neg c1) (rfl)
      rw [qa_whr e0]
      exact ⟨_, _, q61_mono f F _ _ _ _ _ _ _ _ (Nat.le_of_succ_le hF) h, hM, es, g2⟩
/-- BuriedBySevens, forgotten, (I)I -/
noncomputable def ma_94_3 (N : Nat) (a1 : Int32) (σ : qa_S) : Int32 :=
  qa_in ((qa_wh (fun s => s) (mc_94_3_p4 N a1 σ) N ((0 : Int32), (0 : Int32)))) fun r1 =>
  r1.2
theorem mb_94_3 {f N : Nat} (hN : f ≤ N) {M : q4_M} {r : Option Value × q4_M} {σ : qa_S} {a1 : Int32} (hM : qa_O M) (es : qa_s M = σ) (h : q4_run f 94 0 (lv_args 0 [.ref 3, .int (a1)]) [] M 0 0 = some r) : r.1 = some (.int ((ma_94_3 N a1 σ))) ∧ qa_O r.2 ∧ qa_s r.2 = σ := by
  obtain ⟨lv, el⟩ : ∃ l, l = lv_args 0 [.ref 3, .int (a1)] := ⟨_, rfl⟩
  have g0 : q4_get lv 0 = some (.ref 3) := by rw [el]; rfl
  have g1 : q4_get lv 1 = some (.int (a1)) := by rw [el]; rfl
  rw [← el] at h
  clear el
  replace h := qa_push (z := (0 : Int32)) (q := 1) (qa_e rfl h) rfl (by decide)
  obtain ⟨lv, h, g, T⟩ := qa_istore (n := 2) (q := 2) (qa_e rfl h) rfl
  replace g0 := T _ _ g0 (by decide) (Or.inr rfl)
  replace g1 := T _ _ g1 (by decide) (Or.inr rfl)
  have g2 := g
  clear g T
  replace h := qa_push (z := (0 : Int32)) (q := 3) (qa_e rfl h) rfl (by decide)
  obtain ⟨lv, h, g, T⟩ := qa_istore (n := 3) (q := 4) (qa_e rfl h) rfl
  replace g0 := T _ _ g0 (by decide) (Or.inr rfl)
  replace g1 := T _ _ g1 (by decide) (Or.inr rfl)
  replace g2 := T _ _ g2 (by decide) (Or.inr rfl)
  have g3 := g
  clear g T
  obtain ⟨r1, er1⟩ : ∃ x, x = (qa_wh (fun s => s) (mc_94_3_p4 N a1 σ) N ((0 : Int32), (0 : Int32))) := ⟨_, rfl⟩
  have L := md_94_3_p4 (l1 := a1) (σ := σ) (F := f) (N := N) (r := r) hN f N hN (Nat.le_refl f) ((0 : Int32), (0 : Int32)) _ _ hM es g0 g1 g2 g3 h
  rw [← er1] at L
  obtain ⟨lv, M, h, hM, es, g2⟩ := L
  replace h := qa_iload (n := 2) (q := 65) (qa_e rfl h) rfl g2
  have er := qa_ri (qa_e rfl h)
  subst er
  have e0 : ma_94_3 N a1 σ = r1.2 := by exact Eq.trans (qa_ie er1) (rfl)
  rw [e0]
  exact ⟨rfl, hM, es⟩
noncomputable def mc_96_89_p7 (N : Nat) (σ : qa_S) (s : Int32) : (Int32) ⊕ (Int32) :=
  if s < (0 : Int32) then
    .inr s
  else
    if (σ 90 (s + (1 : Int32)).toNatClampNeg) < (σ 90 s.toNatClampNeg) then
      .inl (s + (-1 : Int32))
    else
      .inr s
theorem md_96_89_p7 {N F : Nat} {r : Option Value × q4_M} {σ : qa_S} (hN : F ≤ N) : ∀ f n, f ≤ n → f ≤ F → ∀ (s : Int32) (lv : List (Nat × Value)) (M : q4_M), qa_O M → qa_s M = σ → q4_get lv 0 = some (.ref 89) → q4_get lv 1 = some (.int (s)) → q4_run f 96 7 lv [] M 0 0 = some r → ∃ lv M, q4_run F 96 34 lv [] M 0 0 = some r ∧ qa_O M ∧ qa_s M = σ ∧ q4_get lv 0 = some (.ref 89) ∧ q4_get lv 1 = some (.int ((qa_wh (fun s => s) (mc_96_89_p7 N σ) n s))) := by
  intro f
  induction f with
  | zero => intro n _ _ s lv M hM es _ _ h; cases h
  | succ f ih =>
    intro n hn hF s lv M hM es g0 g1 h
    obtain ⟨n, rfl⟩ : ∃ n1, n = n1 + 1 := ⟨n - 1, by omega⟩
    replace hn : f ≤ n := Nat.le_of_succ_le_succ hn
    have hN := Nat.le_trans (Nat.le_of_succ_le hF) hN
    replace h := qa_iload (n := 1) (q := 8) (qa_d rfl h) rfl g1
    by_cases c1 : s < (0 : Int32)
    · replace h := qa_ict (q := 34) (qa_e rfl h) rfl (qa_T_lt c1)
      have e0 : mc_96_89_p7 N σ s = .inr s := by exact Eq.trans (if_pos c1) (rfl)
      rw [qa_whr e0]
      exact ⟨_, _, q61_mono f F _ _ _ _ _ _ _ _ (Nat.le_of_succ_le hF) h, hM, es, g0, g1⟩
    · replace h := qa_icf (q := 11) (qa_e rfl h) rfl (qa_F_lt c1)
      replace h := qa_aload (n := 0) (q := 12) (qa_e rfl h) rfl g0
      replace h := qa_gr (b := 90) (j := 1) (q := 15) (qa_e rfl h) rfl hM rfl (by decide)
      replace h := qa_iload (n := 1) (q := 16) (qa_e rfl h) rfl g1
      replace h := qa_iaload (jn := s.toNatClampNeg) (q := 17) (qa_e rfl h) rfl hM es rfl
      replace h := qa_aload (n := 0) (q := 18) (qa_e rfl h) rfl g0
      replace h := qa_gr (b := 90) (j := 1) (q := 21) (qa_e rfl h) rfl hM rfl (by decide)
      replace h := qa_iload (n := 1) (q := 22) (qa_e rfl h) rfl g1
      replace h := qa_push (z := (1 : Int32)) (q := 23) (qa_e rfl h) rfl (by decide)
      replace h := qa_iadd (q := 24) (qa_e rfl h) rfl
      replace h := qa_iaload (jn := (s + (1 : Int32)).toNatClampNeg) (q := 25) (qa_e rfl h) rfl hM es rfl
      by_cases c2 : (σ 90 (s + (1 : Int32)).toNatClampNeg) < (σ 90 s.toNatClampNeg)
      · replace h := qa_iff (q := 28) (qa_e rfl h) rfl (qa_F_le c2)
        obtain ⟨lv, h, g, T⟩ := qa_iinc (n := 1) (z := (-1 : Int32)) (q := 31) (qa_e rfl h) rfl (by decide) g1
        replace g0 := T _ _ g0 (by decide) (Or.inr rfl)
        replace g1 := g
        clear g T
        replace h := qa_goto (q := 7) (qa_e rfl h) rfl
        have e0 : mc_96_89_p7 N σ s = .inl (s + (-1 : Int32)) := by exact Eq.trans (if_neg c1) (Eq.trans (if_pos c2) (rfl))
        rw [qa_whl e0]
        exact ih n hn (Nat.le_of_succ_le hF) (s + (-1 : Int32)) _ _ hM es g0 g1 h
      · replace h := qa_ift (q := 34) (qa_e rfl h) rfl (qa_T_le c2)
        have e0 : mc_96_89_p7 N σ s = .inr s := by exact Eq.trans (if_neg c1) (Eq.trans (if_neg c2) (rfl))
        rw [qa_whr e0]
        exact ⟨_, _, q61_mono f F _ _ _ _ _ _ _ _ (Nat.le_of_succ_le hF) h, hM, es, g0, g1⟩
noncomputable def mc_96_89_p47 (N : Nat) (l1 : Int32) (σ : qa_S) (s : Int32) : (Int32) ⊕ (Int32) :=
  if l1 < s then
    if (σ 90 s.toNatClampNeg) < (σ 90 l1.toNatClampNeg) then
      .inl (s + (-1 : Int32))
    else
      .inr s
  else
    .inr s
theorem md_96_89_p47 {N F : Nat} {r : Option Value × q4_M} {l1 : Int32} {σ : qa_S} (hN : F ≤ N) : ∀ f n, f ≤ n → f ≤ F → ∀ (s : Int32) (lv : List (Nat × Value)) (M : q4_M), qa_O M → qa_s M = σ → q4_get lv 0 = some (.ref 89) → q4_get lv 1 = some (.int (l1)) → q4_get lv 2 = some (.int (s)) → q4_run f 96 47 lv [] M 0 0 = some r → ∃ lv M, q4_run F 96 73 lv [] M 0 0 = some r ∧ qa_O M ∧ qa_s M = σ ∧ q4_get lv 0 = some (.ref 89) ∧ q4_get lv 1 = some (.int (l1)) ∧ q4_get lv 2 = some (.int ((qa_wh (fun s => s) (mc_96_89_p47 N l1 σ) n s))) := by
  intro f
  induction f with
  | zero => intro n _ _ s lv M hM es _ _ _ h; cases h
  | succ f ih =>
    intro n hn hF s lv M hM es g0 g1 g2 h
    obtain ⟨n, rfl⟩ : ∃ n1, n = n1 + 1 := ⟨n - 1, by omega⟩
    replace hn : f ≤ n := Nat.le_of_succ_le_succ hn
    have hN := Nat.le_trans (Nat.le_of_succ_le hF) hN
    replace h := qa_iload (n := 2) (q := 48) (qa_d rfl h) rfl g2
    replace h := qa_iload (n := 1) (q := 49) (qa_e rfl h) rfl g1
    by_cases c1 : l1 < s
    · replace h := qa_iff (q := 52) (qa_e rfl h) rfl (qa_F_le c1)
      replace h := qa_aload (n := 0) (q := 53) (qa_e rfl h) rfl g0
      replace h := qa_gr (b := 90) (j := 1) (q := 56) (qa_e rfl h) rfl hM rfl (by decide)
      replace h := qa_iload (n := 2) (q := 57) (qa_e rfl h) rfl g2
      replace h := qa_iaload (jn := s.toNatClampNeg) (q := 58) (qa_e rfl h) rfl hM es rfl
      replace h := qa_aload (n := 0) (q := 59) (qa_e rfl h) rfl g0
      replace h := qa_gr (b := 90) (j := 1) (q := 62) (qa_e rfl h) rfl hM rfl (by decide)
      replace h := qa_iload (n := 1) (q := 63) (qa_e rfl h) rfl g1
      replace h := qa_iaload (jn := l1.toNatClampNeg) (q := 64) (qa_e rfl h) rfl hM es rfl
      by_cases c2 : (σ 90 s.toNatClampNeg) < (σ 90 l1.toNatClampNeg)
      · replace h := qa_iff (q := 67) (qa_e rfl h) rfl (qa_F_ge c2)
        obtain ⟨lv, h, g, T⟩ := qa_iinc (n := 2) (z := (-1 : Int32)) (q := 70) (qa_e rfl h) rfl (by decide) g2
        replace g0 := T _ _ g0 (by decide) (Or.inr rfl)
        replace g1 := T _ _ g1 (by decide) (Or.inr rfl)
        replace g2 := g
        clear g T
        replace h := qa_goto (q := 47) (qa_e rfl h) rfl
        have e0 : mc_96_89_p47 N l1 σ s = .inl (s + (-1 : Int32)) := by exact Eq.trans (if_pos c1) (Eq.trans (if_pos c2) (rfl))
        rw [qa_whl e0]
        exact ih n hn (Nat.le_of_succ_le hF) (s + (-1 : Int32)) _ _ hM es g0 g1 g2 h
      · replace h := qa_ift (q := 73) (qa_e rfl h) rfl (qa_T_ge c2)
        have e0 : mc_96_89_p47 N l1 σ s = .inr s := by exact Eq.trans (if_pos c1) (Eq.trans (if_neg c2) (rfl))
        rw [qa_whr e0]
        exact ⟨_, _, q61_mono f F _ _ _ _ _ _ _ _ (Nat.le_of_succ_le hF) h, hM, es, g0, g1, g2⟩
    · replace h := qa_ift (q := 73) (qa_e rfl h) rfl (qa_T_le c1)
      have e0 : mc_96_89_p47 N l1 σ s = .inr s := by exact Eq.trans (if_neg c1) (rfl)
      rw [qa_whr e0]
      exact ⟨_, _, q61_mono f F _ _ _ _ _ _ _ _ (Nat.le_of_succ_le hF) h, hM, es, g0, g1, g2⟩
/-- BuriedBySevens$Line, swap, (II)V -/
noncomputable def ma_97_89 (a1 : Int32) (a2 : Int32) (σ : qa_S) : qa_S :=
  qa_in (qa_u σ 90 a1.toNatClampNeg (σ 90 a2.toNatClampNeg)) fun m1 =>
  qa_in (qa_u m1 90 a2.toNatClampNeg (σ 90 a1.toNatClampNeg)) fun m2 =>
  m2
theorem mb_97_89 {f : Nat} {M : q4_M} {r : Option Value × q4_M} {σ : qa_S} {a1 : Int32} {a2 : Int32} (hM : qa_O M) (es : qa_s M = σ) (h : q4_run f 97 0 (lv_args 0 [.ref 89, .int (a1), .int (a2)]) [] M 0 0 = some r) : r.1 = none ∧ qa_O r.2 ∧ qa_s r.2 = (ma_97_89 a1 a2 σ) := by
  obtain ⟨lv, el⟩ : ∃ l, l = lv_args 0 [.ref 89, .int (a1), .int (a2)] := ⟨_, rfl⟩
  have g0 : q4_get lv 0 = some (.ref 89) := by rw [el]; rfl
  have g1 : q4_get lv 1 = some (.int (a1)) := by rw [el]; rfl
  have g2 : q4_get lv 2 = some (.int (a2)) := by rw [el]; rfl
  rw [← el] at h
  clear el
  replace h := qa_aload (n := 0) (q := 1) (qa_e rfl h) rfl g0
  replace h := qa_gr (b := 90) (j := 1) (q := 4) (qa_e rfl h) rfl hM rfl (by decide)
  replace h := qa_iload (n := 1) (q := 5) (qa_e rfl h) rfl g1
  replace h := qa_iaload (jn := a1.toNatClampNeg) (q := 6) (qa_e rfl h) rfl hM es rfl
  obtain ⟨lv, h, g, T⟩ := qa_istore (n := 3) (q := 7) (qa_e rfl h) rfl
  replace g0 := T _ _ g0 (by decide) (Or.inr rfl)
  replace g1 := T _ _ g1 (by decide) (Or.inr rfl)
  replace g2 := T _ _ g2 (by decide) (Or.inr rfl)
  have g3 := g
  clear g T
  replace h := qa_aload (n := 0) (q := 8) (qa_e rfl h) rfl g0
  replace h := qa_gr (b := 90) (j := 1) (q := 11) (qa_e rfl h) rfl hM rfl (by decide)
  replace h := qa_iload (n := 1) (q := 12) (qa_e rfl h) rfl g1
  replace h := qa_aload (n := 0) (q := 13) (qa_e rfl h) rfl g0
  replace h := qa_gr (b := 90) (j := 1) (q := 16) (qa_e rfl h) rfl hM rfl (by decide)
  replace h := qa_iload (n := 2) (q := 17) (qa_e rfl h) rfl g2
  replace h := qa_iaload (jn := a2.toNatClampNeg) (q := 18) (qa_e rfl h) rfl hM es rfl
  obtain ⟨m1, em1⟩ : ∃ x, x = qa_u σ 90 a1.toNatClampNeg (σ 90 a2.toNatClampNeg) := ⟨_, rfl⟩
  obtain ⟨M, h, hM, es⟩ := qa_iastore (jn := a1.toNatClampNeg) (q := 19) (qa_e rfl h) rfl hM es rfl
  rw [← em1] at es
  replace h := qa_aload (n := 0) (q := 20) (qa_e rfl h) rfl g0
  replace h := qa_gr (b := 90) (j := 1) (q := 23) (qa_e rfl h) rfl hM rfl (by decide)
  replace h := qa_iload (n := 2) (q := 24) (qa_e rfl h) rfl g2
  replace h := qa_iload (n := 3) (q := 25) (qa_e rfl h) rfl g3
  obtain ⟨m2, em2⟩ : ∃ x, x = qa_u m1 90 a2.toNatClampNeg (σ 90 a1.toNatClampNeg) := ⟨_, rfl⟩
  obtain ⟨M, h, hM, es⟩ := qa_iastore (jn := a2.toNatClampNeg) (q := 26) (qa_e rfl h) rfl hM es rfl
  rw [← em2] at es
  have er := qa_rv (qa_e rfl h)
  subst er
  have e0 : ma_97_89 a1 a2 σ = m2 := by exact Eq.trans (qa_ie em1) (Eq.trans (qa_ie em2) (rfl))
  rw [e0]
  exact ⟨rfl, hM, es⟩
noncomputable def mc_96_89_p91 (N : Nat) (s : Int32 × Int32 × qa_S) : (Int32 × Int32 × qa_S) ⊕ (Int32 × Int32 × qa_S) :=
  if s.2.1 < s.1 then
    qa_in ((ma_97_89 s.2.1 s.1 s.2.2)) fun m2 =>
    .inl ((s.1 + (-1 : Int32)), (s.2.1 + (1 : Int32)), m2)
  else
    .inr (s.1, s.2.1, s.2.2)
theorem md_96_89_p91 {N F : Nat} {r : Option Value × q4_M} (hN : F ≤ N) : ∀ f n, f ≤ n → f ≤ F → ∀ (s : Int32 × Int32 × qa_S) (lv : List (Nat × Value)) (M : q4_M), qa_O M → qa_s M = s.2.2 → q4_get lv 0 = some (.ref 89) → q4_get lv 3 = some (.int (s.2.1)) → q4_get lv 4 = some (.int (s.1)) → q4_run f 96 91 lv [] M 0 0 = some r → ∃ lv M, q4_run F 96 113 lv [] M 0 0 = some r ∧ qa_O M ∧ qa_s M = (qa_wh (fun s => s) (mc_96_89_p91 N) n s).2.2 := by
  intro f
  induction f with
  | zero => intro n _ _ s lv M hM es _ _ _ h; cases h
  | succ f ih =>
    intro n hn hF s lv M hM es g0 g3 g4 h
    obtain ⟨n, rfl⟩ : ∃ n1, n = n1 + 1 := ⟨n - 1, by omega⟩
    replace hn : f ≤ n := Nat.le_of_succ_le_succ hn
    have hN := Nat.le_trans (Nat.le_of_succ_le hF) hN
    replace h := qa_iload (n := 3) (q := 92) (qa_d rfl h) rfl g3
    replace h := qa_iload (n := 4) (q := 94) (qa_e rfl h) rfl g4
    by_cases c1 : s.2.1 < s.1
    · replace h := qa_iff (q := 97) (qa_e rfl h) rfl (qa_F_ge c1)
      replace h := qa_aload (n := 0) (q := 98) (qa_e rfl h) rfl g0
      replace h := qa_iload (n := 3) (q := 99) (qa_e rfl h) rfl g3
      replace h := qa_iload (n := 4) (q := 101) (qa_e rfl h) rfl g4
      obtain ⟨m2, em2⟩ : ∃ x, x = (ma_97_89 s.2.1 s.1 s.2.2) := ⟨_, rfl⟩
      obtain ⟨M, h, hM, es⟩ := qa_c0 (y := 97) (as := [.ref 89, .int (s.2.1), .int (s.1)]) (rest := []) (i := .invokevirtual 97) (q := 104) (qa_e rfl h) (Or.inl rfl) rfl rfl (by decide) rfl (fun r hc => mb_97_89 hM es hc)
      rw [← em2] at es
      obtain ⟨lv, h, g, T⟩ := qa_iinc (n := 3) (z := (1 : Int32)) (q := 107) (qa_e rfl h) rfl (by decide) g3
      replace g0 := T _ _ g0 (by decide) (Or.inr rfl)
      replace g4 := T _ _ g4 (by decide) (Or.inr rfl)
      replace g3 := g
      clear g T
      obtain ⟨lv, h, g, T⟩ := qa_iinc (n := 4) (z := (-1 : Int32)) (q := 110) (qa_e rfl h) rfl (by decide) g4
      replace g0 := T _ _ g0 (by decide) (Or.inr rfl)
      replace g3 := T _ _ g3 (by decide) (Or.inr rfl)
      replace g4 := g
      clear g T
      replace h := qa_goto (q := 91) (qa_e rfl h) rfl
      have e0 : mc_96_89_p91 N s = .inl ((s.1 + (-1 : Int32)), (s.2.1 + (1 : Int32)), m2) := by exact Eq.trans (if_pos c1) (Eq.trans (qa_ie em2) (rfl))
      rw [qa_whl e0]
      exact ih n hn (Nat.le_of_succ_le hF) ((s.1 + (-1 : Int32)), (s.2.1 + (1 : Int32)), m2) _ _ hM es g0 g3 g4 h
    · replace h := qa_ift (q := 113) (qa_e rfl h) rfl (qa_T_ge c1)
      have e0 : mc_96_89_p91 N s = .inr (s.1, s.2.1, s.2.2) := by exact Eq.trans (if_neg c1) (rfl)
      rw [qa_whr e0]
      exact ⟨_, _, q61_mono f F _ _ _ _ _ _ _ _ (Nat.le_of_succ_le hF) h, hM, es⟩
/-- BuriedBySevens$Line, goOn, ()Z -/
noncomputable def ma_96_89 (N : Nat) (σ : qa_S) : Int32 × qa_S :=
  qa_in ((qa_wh (fun s => s) (mc_96_89_p7 N σ) N ((σ 89 0) - (2 : Int32)))) fun r1 =>
  if r1 < (0 : Int32) then
    ((0 : Int32), σ)
  else
    qa_in ((qa_wh (fun s => s) (mc_96_89_p47 N r1 σ) N ((σ 89 0) - (1 : Int32)))) fun r3 =>
    qa_in ((ma_97_89 r1 r3 σ)) fun m4 =>
    qa_in ((qa_wh (fun s => s) (mc_96_89_p91 N) N (((m4 89 0) - (1 : Int32)), (r1 + (1 : Int32)), m4))) fun r5 =>
    ((1 : Int32), r5.2.2)
theorem mb_96_89 {f N : Nat} (hN : f ≤ N) {M : q4_M} {r : Option Value × q4_M} {σ : qa_S} (hM : qa_O M) (es : qa_s M = σ) (h : q4_run f 96 0 (lv_args 0 [.ref 89]) [] M 0 0 = some r) : r.1 = some (.int ((ma_96_89 N σ).1)) ∧ qa_O r.2 ∧ qa_s r.2 = (ma_96_89 N σ).2 := by
  obtain ⟨lv, el⟩ : ∃ l, l = lv_args 0 [.ref 89] := ⟨_, rfl⟩
  have g0 : q4_get lv 0 = some (.ref 89) := by rw [el]; rfl
  rw [← el] at h
  clear el
  replace h := qa_aload (n := 0) (q := 1) (qa_e rfl h) rfl g0
  replace h := qa_gi (j := 0) (q := 4) (qa_e rfl h) rfl hM es rfl (by decide)
  replace h := qa_push (z := (2 : Int32)) (q := 5) (qa_e rfl h) rfl (by decide)
  replace h := qa_isub (q := 6) (qa_e rfl h) rfl
  obtain ⟨lv, h, g, T⟩ := qa_istore (n := 1) (q := 7) (qa_e rfl h) rfl
  replace g0 := T _ _ g0 (by decide) (Or.inr rfl)
  have g1 := g
  clear g T
  obtain ⟨r1, er1⟩ : ∃ x, x = (qa_wh (fun s => s) (mc_96_89_p7 N σ) N ((σ 89 0) - (2 : Int32))) := ⟨_, rfl⟩
  have L := md_96_89_p7 (σ := σ) (F := f) (N := N) (r := r) hN f N hN (Nat.le_refl f) ((σ 89 0) - (2 : Int32)) _ _ hM es g0 g1 h
  rw [← er1] at L
  obtain ⟨lv, M, h, hM, es, g0, g1⟩ := L
  replace h := qa_iload (n := 1) (q := 35) (qa_e rfl h) rfl g1
  by_cases c2 : r1 < (0 : Int32)
  · replace h := qa_icf (q := 38) (qa_e rfl h) rfl (qa_F_ge c2)
    replace h := qa_push (z := (0 : Int32)) (q := 39) (qa_e rfl h) rfl (by decide)
    have er := qa_ri (qa_e rfl h)
    subst er
    have e0 : ma_96_89 N σ = ((0 : Int32), σ) := by exact Eq.trans (qa_ie er1) (Eq.trans (if_pos c2) (rfl))
    rw [e0]
    exact ⟨rfl, hM, es⟩
  · replace h := qa_ict (q := 40) (qa_e rfl h) rfl (qa_T_ge c2)
    replace h := qa_aload (n := 0) (q := 41) (qa_e rfl h) rfl g0
    replace h := qa_gi (j := 0) (q := 44) (qa_e rfl h) rfl hM es rfl (by decide)
    replace h := qa_push (z := (1 : Int32)) (q := 45) (qa_e rfl h) rfl (by decide)
    replace h := qa_isub (q := 46) (qa_e rfl h) rfl
    obtain ⟨lv, h, g, T⟩ := qa_istore (n := 2) (q := 47) (qa_e rfl h) rfl
    replace g0 := T _ _ g0 (by decide) (Or.inr rfl)
    replace g1 := T _ _ g1 (by decide) (Or.inr rfl)
    have g2 := g
    clear g T
    obtain ⟨r3, er3⟩ : ∃ x, x = (qa_wh (fun s => s) (mc_96_89_p47 N r1 σ) N ((σ 89 0) - (1 : Int32))) := ⟨_, rfl⟩
    have L := md_96_89_p47 (l1 := r1) (σ := σ) (F := f) (N := N) (r := r) hN f N hN (Nat.le_refl f) ((σ 89 0) - (1 : Int32)) _ _ hM es g0 g1 g2 h
    rw [← er3] at L
    obtain ⟨lv, M, h, hM, es, g0, g1, g2⟩ := L
    replace h := qa_aload (n := 0) (q := 74) (qa_e rfl h) rfl g0
    replace h := qa_iload (n := 1) (q := 75) (qa_e rfl h) rfl g1
    replace h := qa_iload (n := 2) (q := 76) (qa_e rfl h) rfl g2
    obtain ⟨m4, em4⟩ : ∃ x, x = (ma_97_89 r1 r3 σ) := ⟨_, rfl⟩
    obtain ⟨M, h, hM, es⟩ := qa_c0 (y := 97) (as := [.ref 89, .int (r1), .int (r3)]) (rest := []) (i := .invokevirtual 97) (q := 79) (qa_e rfl h) (Or.inl rfl) rfl rfl (by decide) rfl (fun r hc => mb_97_89 hM es hc)
    rw [← em4] at es
    replace h := qa_iload (n := 1) (q := 80) (qa_e rfl h) rfl g1
    replace h := qa_push (z := (1 : Int32)) (q := 81) (qa_e rfl h) rfl (by decide)
    replace h := qa_iadd (q := 82) (qa_e rfl h) rfl
    obtain ⟨lv, h, g, T⟩ := qa_istore (n := 3) (q := 83) (qa_e rfl h) rfl
    replace g0 := T _ _ g0 (by decide) (Or.inr rfl)
    have g3 := g
    clear g T
    replace h := qa_aload (n := 0) (q := 84) (qa_e rfl h) rfl g0
    replace h := qa_gi (j := 0) (q := 87) (qa_e rfl h) rfl hM es rfl (by decide)
    replace h := qa_push (z := (1 : Int32)) (q := 88) (qa_e rfl h) rfl (by decide)
    replace h := qa_isub (q := 89) (qa_e rfl h) rfl
    obtain ⟨lv, h, g, T⟩ := qa_istore (n := 4) (q := 91) (qa_e rfl h) rfl
    replace g0 := T _ _ g0 (by decide) (Or.inr rfl)
    replace g3 := T _ _ g3 (by decide) (Or.inr rfl)
    have g4 := g
    clear g T
    obtain ⟨r5, er5⟩ : ∃ x, x = (qa_wh (fun s => s) (mc_96_89_p91 N) N (((m4 89 0) - (1 : Int32)), (r1 + (1 : Int32)), m4)) := ⟨_, rfl⟩
    have L := md_96_89_p91 (F := f) (N := N) (r := r) hN f N hN (Nat.le_refl f) (((m4 89 0) - (1 : Int32)), (r1 + (1 : Int32)), m4) _ _ hM es g0 g3 g4 h
    rw [← er5] at L
    obtain ⟨lv, M, h, hM, es⟩ := L
    replace h := qa_push (z := (1 : Int32)) (q := 114) (qa_e rfl h) rfl (by decide)
    have er := qa_ri (qa_e rfl h)
    subst er
    have e0 : ma_96_89 N σ = ((1 : Int32), r5.2.2) := by exact Eq.trans (qa_ie er1) (Eq.trans (if_neg c2) (Eq.trans (qa_ie er3) (Eq.trans (qa_ie em4) (Eq.trans (qa_ie er5) (rfl)))))
    rw [e0]
    exact ⟨rfl, hM, es⟩
noncomputable def mc_92_3_p18 (N : Nat) (l1 : Int32) (s : Int32 × Int32 × qa_S) : (Int32 × Int32 × qa_S) ⊕ (Int32 × Int32 × qa_S) :=
  if s.1 < (720 : Int32) then
    qa_in ((ma_94_3 N l1 s.2.2)) fun r2 =>
    qa_in (qa_cp s.2.2 90 0 91 0 6) fun m4 =>
    qa_in (qa_cp s.2.2 90 0 91 0 6) fun m6 =>
    qa_in ((if r2 < s.2.1 then m6 else s.2.2)) fun m7 =>
    qa_in ((if s.1 = (0 : Int32) then m4 else m7)) fun m8 =>
    qa_in ((ma_96_89 N m8)) fun r9 =>
    if r9.1 = (0 : Int32) then
      .inr (s.1, (if s.1 = (0 : Int32) then r2 else (if r2 < s.2.1 then r2 else s.2.1)), r9.2)
    else
      .inl ((s.1 + (1 : Int32)), (if s.1 = (0 : Int32) then r2 else (if r2 < s.2.1 then r2 else s.2.1)), r9.2)
  else
    .inr (s.1, s.2.1, s.2.2)
theorem md_92_3_p18 {N F : Nat} {r : Option Value × q4_M} {l1 : Int32} (hN : F ≤ N) : ∀ f n, f ≤ n → f ≤ F → ∀ (s : Int32 × Int32 × qa_S) (lv : List (Nat × Value)) (M : q4_M), qa_O M → qa_s M = s.2.2 → q4_get lv 0 = some (.ref 3) → q4_get lv 1 = some (.int (l1)) → q4_get lv 2 = some (.int (s.2.1)) → q4_get lv 3 = some (.int (s.1)) → q4_run f 92 18 lv [] M 0 0 = some r → ∃ lv M, q4_run F 92 82 lv [] M 0 0 = some r ∧ qa_O M ∧ qa_s M = (qa_wh (fun s => s) (mc_92_3_p18 N l1) n s).2.2 ∧ q4_get lv 2 = some (.int ((qa_wh (fun s => s) (mc_92_3_p18 N l1) n s).2.1)) := by
  intro f
  induction f with
  | zero => intro n _ _ s lv M hM es _ _ _ _ h; cases h
  | succ f ih =>
    intro n hn hF s lv M hM es g0 g1 g2 g3 h
    obtain ⟨n, rfl⟩ : ∃ n1, n = n1 + 1 := ⟨n - 1, by omega⟩
    replace hn : f ≤ n := Nat.le_of_succ_le_succ hn
    have hN := Nat.le_trans (Nat.le_of_succ_le hF) hN
    replace h := qa_iload (n := 3) (q := 19) (qa_d rfl h) rfl g3
    replace h := qa_push (z := (720 : Int32)) (q := 22) (qa_e rfl h) rfl (by decide)
    by_cases c1 : s.1 < (720 : Int32)
    · replace h := qa_iff (q := 25) (qa_e rfl h) rfl (qa_F_ge c1)
      replace h := qa_aload (n := 0) (q := 26) (qa_e rfl h) rfl g0
      replace h := qa_iload (n := 1) (q := 27) (qa_e rfl h) rfl g1
      obtain ⟨r2, er2⟩ : ∃ x, x = (ma_94_3 N l1 s.2.2) := ⟨_, rfl⟩
      obtain ⟨M, h, hM, es⟩ := qa_c1 (y := 94) (as := [.ref 3, .int (l1)]) (rest := []) (i := .invokevirtual 94) (q := 30) (qa_e rfl h) (Or.inl rfl) rfl rfl (by decide) rfl (fun r hc => mb_94_3 hN hM es hc)
      rw [← er2] at h
      obtain ⟨lv, h, g, T⟩ := qa_istore (n := 4) (q := 32) (qa_e rfl h) rfl
      replace g0 := T _ _ g0 (by decide) (Or.inr rfl)
      replace g1 := T _ _ g1 (by decide) (Or.inr rfl)
      replace g2 := T _ _ g2 (by decide) (Or.inr rfl)
      replace g3 := T _ _ g3 (by decide) (Or.inr rfl)
      have g4 := g
      clear g T
      replace h := qa_iload (n := 3) (q := 33) (qa_e rfl h) rfl g3
      obtain ⟨m4, em4⟩ : ∃ x, x = qa_cp s.2.2 90 0 91 0 6 := ⟨_, rfl⟩
      obtain ⟨m6, em6⟩ : ∃ x, x = qa_cp s.2.2 90 0 91 0 6 := ⟨_, rfl⟩
      obtain ⟨m7, em7⟩ : ∃ x, x = (if r2 < s.2.1 then m6 else s.2.2) := ⟨_, rfl⟩
      obtain ⟨m8, em8⟩ : ∃ x, x = (if s.1 = (0 : Int32) then m4 else m7) := ⟨_, rfl⟩
      obtain ⟨lv, M, h, hM, es, g0, g1, g2, g3⟩ : ∃ lv M, q4_run f 92 63 lv [] M 0 0 = some r ∧ qa_O M ∧ qa_s M = m8 ∧ q4_get lv 0 = some (.ref 3) ∧ q4_get lv 1 = some (.int (l1)) ∧ q4_get lv 2 = some (.int ((if s.1 = (0 : Int32) then r2 else (if r2 < s.2.1 then r2 else s.2.1)))) ∧ q4_get lv 3 = some (.int (s.1)) := by
        by_cases c3 : s.1 = (0 : Int32)
        · replace h := qa_ict (q := 42) (qa_e rfl h) rfl (qa_T_eq c3)
          replace h := qa_iload (n := 4) (q := 44) (qa_e rfl h) rfl g4
          obtain ⟨lv, h, g, T⟩ := qa_istore (n := 2) (q := 45) (qa_e rfl h) rfl
          replace g0 := T _ _ g0 (by decide) (Or.inr rfl)
          replace g1 := T _ _ g1 (by decide) (Or.inr rfl)
          replace g3 := T _ _ g3 (by decide) (Or.inr rfl)
          have g2 := g
          clear g T
          replace h := qa_aload (n := 0) (q := 46) (qa_e rfl h) rfl g0
          replace h := qa_gr (b := 89) (j := 7) (q := 49) (qa_e rfl h) rfl hM rfl (by decide)
          replace h := qa_gr (b := 90) (j := 1) (q := 52) (qa_e rfl h) rfl hM rfl (by decide)
          replace h := qa_push (z := (0 : Int32)) (q := 53) (qa_e rfl h) rfl (by decide)
          replace h := qa_aload (n := 0) (q := 54) (qa_e rfl h) rfl g0
          replace h := qa_gr (b := 91) (j := 8) (q := 57) (qa_e rfl h) rfl hM rfl (by decide)
          replace h := qa_push (z := (0 : Int32)) (q := 58) (qa_e rfl h) rfl (by decide)
          replace h := qa_push (z := (6 : Int32)) (q := 60) (qa_e rfl h) rfl (by decide)
          obtain ⟨M, h, hM, es⟩ := qa_ac (sn := 0) (dn := 0) (nn := 6) (q := 63) (qa_e rfl h) rfl hM es (by decide) (by decide) (by decide)
          rw [← em4] at es
          exact ⟨lv, M, h, hM, ((qa_ms1 c3 es).trans em8.symm), g0, g1, (qa_gi1 c3 g2), g3⟩
        · replace h := qa_icf (q := 36) (qa_e rfl h) rfl (qa_F_eq c3)
          replace h := qa_iload (n := 4) (q := 38) (qa_e rfl h) rfl g4
          replace h := qa_iload (n := 2) (q := 39) (qa_e rfl h) rfl g2
          obtain ⟨lv, M, h, hM, es, g0, g1, g2, g3⟩ : ∃ lv M, q4_run f 92 63 lv [] M 0 0 = some r ∧ qa_O M ∧ qa_s M = m7 ∧ q4_get lv 0 = some (.ref 3) ∧ q4_get lv 1 = some (.int (l1)) ∧ q4_get lv 2 = some (.int ((if r2 < s.2.1 then r2 else s.2.1))) ∧ q4_get lv 3 = some (.int (s.1)) := by
            by_cases c5 : r2 < s.2.1
            · replace h := qa_iff (q := 42) (qa_e rfl h) rfl (qa_F_ge c5)
              replace h := qa_iload (n := 4) (q := 44) (qa_e rfl h) rfl g4
              obtain ⟨lv, h, g, T⟩ := qa_istore (n := 2) (q := 45) (qa_e rfl h) rfl
              replace g0 := T _ _ g0 (by decide) (Or.inr rfl)
              replace g1 := T _ _ g1 (by decide) (Or.inr rfl)
              replace g3 := T _ _ g3 (by decide) (Or.inr rfl)
              have g2 := g
              clear g T
              replace h := qa_aload (n := 0) (q := 46) (qa_e rfl h) rfl g0
              replace h := qa_gr (b := 89) (j := 7) (q := 49) (qa_e rfl h) rfl hM rfl (by decide)
              replace h := qa_gr (b := 90) (j := 1) (q := 52) (qa_e rfl h) rfl hM rfl (by decide)
              replace h := qa_push (z := (0 : Int32)) (q := 53) (qa_e rfl h) rfl (by decide)
              replace h := qa_aload (n := 0) (q := 54) (qa_e rfl h) rfl g0
              replace h := qa_gr (b := 91) (j := 8) (q := 57) (qa_e rfl h) rfl hM rfl (by decide)
              replace h := qa_push (z := (0 : Int32)) (q := 58) (qa_e rfl h) rfl (by decide)
              replace h := qa_push (z := (6 : Int32)) (q := 60) (qa_e rfl h) rfl (by decide)
              obtain ⟨M, h, hM, es⟩ := qa_ac (sn := 0) (dn := 0) (nn := 6) (q := 63) (qa_e rfl h) rfl hM es (by decide) (by decide) (by decide)
              rw [← em6] at es
              exact ⟨lv, M, h, hM, ((qa_ms1 c5 es).trans em7.symm), g0, g1, (qa_gi1 c5 g2), g3⟩
            · replace h := qa_ift (q := 63) (qa_e rfl h) rfl (qa_T_ge c5)
              exact ⟨lv, M, h, hM, ((qa_ms0 c5 es).trans em7.symm), g0, g1, (qa_gi0 c5 g2), g3⟩
          exact ⟨lv, M, h, hM, ((qa_ms0 c3 es).trans em8.symm), g0, g1, (qa_gi0 c3 g2), g3⟩
      replace h := qa_aload (n := 0) (q := 64) (qa_e rfl h) rfl g0
      replace h := qa_gr (b := 89) (j := 7) (q := 67) (qa_e rfl h) rfl hM rfl (by decide)
      obtain ⟨r9, er9⟩ : ∃ x, x = (ma_96_89 N m8) := ⟨_, rfl⟩
      obtain ⟨M, h, hM, es⟩ := qa_c1 (y := 96) (as := [.ref 89]) (rest := []) (i := .invokevirtual 96) (q := 70) (qa_e rfl h) (Or.inl rfl) rfl rfl (by decide) rfl (fun r hc => mb_96_89 hN hM es hc)
      rw [← er9] at h es
      by_cases c10 : r9.1 = (0 : Int32)
      · replace h := qa_icf (q := 73) (qa_e rfl h) rfl (qa_F_ne c10)
        replace h := qa_goto (q := 82) (qa_e rfl h) rfl
        have e0 : mc_92_3_p18 N l1 s = .inr (s.1, (if s.1 = (0 : Int32) then r2 else (if r2 < s.2.1 then r2 else s.2.1)), r9.2) := by exact Eq.trans (if_pos c1) (Eq.trans (qa_ie er2) (Eq.trans (qa_ie em4) (Eq.trans (qa_ie em6) (Eq.trans (qa_ie em7) (Eq.trans (qa_ie em8) (Eq.trans (qa_ie er9) (Eq.trans (if_pos c10) (rfl))))))))
        rw [qa_whr e0]
        exact ⟨_, _, q61_mono f F _ _ _ _ _ _ _ _ (Nat.le_of_succ_le hF) h, hM, es, g2⟩
      · replace h := qa_ict (q := 76) (qa_e rfl h) rfl (qa_T_ne c10)
        obtain ⟨lv, h, g, T⟩ := qa_iinc (n := 3) (z := (1 : Int32)) (q := 79) (qa_e rfl h) rfl (by decide) g3
        replace g0 := T _ _ g0 (by decide) (Or.inr rfl)
        replace g1 := T _ _ g1 (by decide) (Or.inr rfl)
        replace g2 := T _ _ g2 (by decide) (Or.inr rfl)
        replace g3 := g
        clear g T
        replace h := qa_goto (q := 18) (qa_e rfl h) rfl
        have e0 : mc_92_3_p18 N l1 s = .inl ((s.1 + (1 : Int32)), (if s.1 = (0 : Int32) then r2 else (if r2 < s.2.1 then r2 else s.2.1)), r9.2) := by exact Eq.trans (if_pos c1) (Eq.trans (qa_ie er2) (Eq.trans (qa_ie em4) (Eq.trans (qa_ie em6) (Eq.trans (qa_ie em7) (Eq.trans (qa_ie em8) (Eq.trans (qa_ie er9) (Eq.trans (if_neg c10) (rfl))))))))
        rw [qa_whl e0]
        exact ih n hn (Nat.le_of_succ_le hF) ((s.1 + (1 : Int32)), (if s.1 = (0 : Int32) then r2 else (if r2 < s.2.1 then r2 else s.2.1)), r9.2) _ _ hM es g0 g1 g2 g3 h
    · replace h := qa_ift (q := 82) (qa_e rfl h) rfl (qa_T_ge c1)
      have e0 : mc_92_3_p18 N l1 s = .inr (s.1, s.2.1, s.2.2) := by exact Eq.trans (if_neg c1) (rfl)
      rw [qa_whr e0]
      exact ⟨_, _, q61_mono f F _ _ _ _ _ _ _ _ (Nat.le_of_succ_le hF) h, hM, es, g2⟩
/-- BuriedBySevens, leastForgotten, (I)I -/
noncomputable def ma_92_3 (N : Nat) (a1 : Int32) (σ : qa_S) : Int32 × qa_S :=
  qa_in ((ma_93_89 N (σ 4 0) σ)) fun m1 =>
  qa_in ((qa_wh (fun s => s) (mc_92_3_p18 N a1) N ((0 : Int32), (0 : Int32), m1))) fun r2 =>
  (r2.2.1, r2.2.2)
theorem mb_92_3 {f N : Nat} (hN : f ≤ N) {M : q4_M} {r : Option Value × q4_M} {σ : qa_S} {a1 : Int32} (hM : qa_O M) (es : qa_s M = σ) (h : q4_run f 92 0 (lv_args 0 [.ref 3, .int (a1)]) [] M 0 0 = some r) : r.1 = some (.int ((ma_92_3 N a1 σ).1)) ∧ qa_O r.2 ∧ qa_s r.2 = (ma_92_3 N a1 σ).2 := by
  obtain ⟨lv, el⟩ : ∃ l, l = lv_args 0 [.ref 3, .int (a1)] := ⟨_, rfl⟩
  have g0 : q4_get lv 0 = some (.ref 3) := by rw [el]; rfl
  have g1 : q4_get lv 1 = some (.int (a1)) := by rw [el]; rfl
  rw [← el] at h
  clear el
  replace h := qa_push (z := (0 : Int32)) (q := 1) (qa_e rfl h) rfl (by decide)
  obtain ⟨lv, h, g, T⟩ := qa_istore (n := 2) (q := 2) (qa_e rfl h) rfl
  replace g0 := T _ _ g0 (by decide) (Or.inr rfl)
  replace g1 := T _ _ g1 (by decide) (Or.inr rfl)
  have g2 := g
  clear g T
  replace h := qa_aload (n := 0) (q := 3) (qa_e rfl h) rfl g0
  replace h := qa_gr (b := 89) (j := 7) (q := 6) (qa_e rfl h) rfl hM rfl (by decide)
  replace h := qa_aload (n := 0) (q := 7) (qa_e rfl h) rfl g0
  replace h := qa_gr (b := 4) (j := 0) (q := 10) (qa_e rfl h) rfl hM rfl (by decide)
  replace h := qa_gi (j := 0) (q := 13) (qa_e rfl h) rfl hM es rfl (by decide)
  obtain ⟨m1, em1⟩ : ∃ x, x = (ma_93_89 N (σ 4 0) σ) := ⟨_, rfl⟩
  obtain ⟨M, h, hM, es⟩ := qa_c0 (y := 93) (as := [.ref 89, .int ((σ 4 0))]) (rest := []) (i := .invokevirtual 93) (q := 16) (qa_e rfl h) (Or.inl rfl) rfl rfl (by decide) rfl (fun r hc => mb_93_89 hN hM es hc)
  rw [← em1] at es
  replace h := qa_push (z := (0 : Int32)) (q := 17) (qa_e rfl h) rfl (by decide)
  obtain ⟨lv, h, g, T⟩ := qa_istore (n := 3) (q := 18) (qa_e rfl h) rfl
  replace g0 := T _ _ g0 (by decide) (Or.inr rfl)
  replace g1 := T _ _ g1 (by decide) (Or.inr rfl)
  replace g2 := T _ _ g2 (by decide) (Or.inr rfl)
  have g3 := g
  clear g T
  obtain ⟨r2, er2⟩ : ∃ x, x = (qa_wh (fun s => s) (mc_92_3_p18 N a1) N ((0 : Int32), (0 : Int32), m1)) := ⟨_, rfl⟩
  have L := md_92_3_p18 (l1 := a1) (F := f) (N := N) (r := r) hN f N hN (Nat.le_refl f) ((0 : Int32), (0 : Int32), m1) _ _ hM es g0 g1 g2 g3 h
  rw [← er2] at L
  obtain ⟨lv, M, h, hM, es, g2⟩ := L
  replace h := qa_iload (n := 2) (q := 83) (qa_e rfl h) rfl g2
  have er := qa_ri (qa_e rfl h)
  subst er
  have e0 : ma_92_3 N a1 σ = (r2.2.1, r2.2.2) := by exact Eq.trans (qa_ie em1) (Eq.trans (qa_ie er2) (rfl))
  rw [e0]
  exact ⟨rfl, hM, es⟩
/-- BuriedBySevens, order, (II)I -/
noncomputable def ma_91_3 (N : Nat) (a1 : Int32) (a2 : Int32) (σ : qa_S) : Int32 × qa_S :=
  if (ma_33_4 a1 σ) = (0 : Int32) then
    qa_in ((ma_9_3 (-1 : Int32) σ)) fun r2 =>
    (r2.1, r2.2)
  else
    if a2 < (-1 : Int32) then
      qa_in ((ma_9_3 (-4 : Int32) σ)) fun r4 =>
      (r4.1, r4.2)
    else
      if (6 : Int32) < (σ 4 0) then
        qa_in ((ma_9_3 (-3 : Int32) σ)) fun r6 =>
        (r6.1, r6.2)
      else
        qa_in ((ma_92_3 N (σ 26 a1.toNatClampNeg) σ)) fun r7 =>
        if a2 = (-1 : Int32) then
          (r7.1, r7.2)
        else
          ((if a2 < (r7.2 4 0) then (r7.2 91 a2.toNatClampNeg) else (-9 : Int32)), r7.2)
theorem mb_91_3 {f N : Nat} (hN : f ≤ N) {M : q4_M} {r : Option Value × q4_M} {σ : qa_S} {a1 : Int32} {a2 : Int32} (hM : qa_O M) (es : qa_s M = σ) (h : q4_run f 91 0 (lv_args 0 [.ref 3, .int (a1), .int (a2)]) [] M 0 0 = some r) : r.1 = some (.int ((ma_91_3 N a1 a2 σ).1)) ∧ qa_O r.2 ∧ qa_s r.2 = (ma_91_3 N a1 a2 σ).2 := by
  obtain ⟨lv, el⟩ : ∃ l, l = lv_args 0 [.ref 3, .int (a1), .int (a2)] := ⟨_, rfl⟩
  have g0 : q4_get lv 0 = some (.ref 3) := by rw [el]; rfl
  have g1 : q4_get lv 1 = some (.int (a1)) := by rw [el]; rfl
  have g2 : q4_get lv 2 = some (.int (a2)) := by rw [el]; rfl
  rw [← el] at h
  clear el
  replace h := qa_aload (n := 0) (q := 1) (qa_e rfl h) rfl g0
  replace h := qa_gr (b := 4) (j := 0) (q := 4) (qa_e rfl h) rfl hM rfl (by decide)
  replace h := qa_iload (n := 1) (q := 5) (qa_e rfl h) rfl g1
  obtain ⟨M, h, hM, es⟩ := qa_c1 (y := 33) (as := [.ref 4, .int (a1)]) (rest := []) (i := .invokevirtual 33) (q := 8) (qa_e rfl h) (Or.inl rfl) rfl rfl (by decide) rfl (fun r hc => mb_33_4 hM es hc)
  by_cases c1 : (ma_33_4 a1 σ) = (0 : Int32)
  · replace h := qa_icf (q := 11) (qa_e rfl h) rfl (qa_F_ne c1)
    replace h := qa_aload (n := 0) (q := 12) (qa_e rfl h) rfl g0
    replace h := qa_push (z := (-1 : Int32)) (q := 13) (qa_e rfl h) rfl (by decide)
    obtain ⟨r2, er2⟩ : ∃ x, x = (ma_9_3 (-1 : Int32) σ) := ⟨_, rfl⟩
    obtain ⟨M, h, hM, es⟩ := qa_c1 (y := 9) (as := [.ref 3, .int ((-1 : Int32))]) (rest := []) (i := .invokevirtual 9) (q := 16) (qa_e rfl h) (Or.inl rfl) rfl rfl (by decide) rfl (fun r hc => mb_9_3 hM es hc)
    rw [← er2] at h es
    have er := qa_ri (qa_e rfl h)
    subst er
    have e0 : ma_91_3 N a1 a2 σ = (r2.1, r2.2) := by exact Eq.trans (if_pos c1) (Eq.trans (qa_ie er2) (rfl))
    rw [e0]
    exact ⟨rfl, hM, es⟩
  · replace h := qa_ict (q := 17) (qa_e rfl h) rfl (qa_T_ne c1)
    replace h := qa_iload (n := 2) (q := 18) (qa_e rfl h) rfl g2
    replace h := qa_push (z := (-1 : Int32)) (q := 19) (qa_e rfl h) rfl (by decide)
    by_cases c3 : a2 < (-1 : Int32)
    · replace h := qa_iff (q := 22) (qa_e rfl h) rfl (qa_F_ge c3)
      replace h := qa_aload (n := 0) (q := 23) (qa_e rfl h) rfl g0
      replace h := qa_push (z := (-4 : Int32)) (q := 25) (qa_e rfl h) rfl (by decide)
      obtain ⟨r4, er4⟩ : ∃ x, x = (ma_9_3 (-4 : Int32) σ) := ⟨_, rfl⟩
      obtain ⟨M, h, hM, es⟩ := qa_c1 (y := 9) (as := [.ref 3, .int ((-4 : Int32))]) (rest := []) (i := .invokevirtual 9) (q := 28) (qa_e rfl h) (Or.inl rfl) rfl rfl (by decide) rfl (fun r hc => mb_9_3 hM es hc)
      rw [← er4] at h es
      have er := qa_ri (qa_e rfl h)
      subst er
      have e0 : ma_91_3 N a1 a2 σ = (r4.1, r4.2) := by exact Eq.trans (if_neg c1) (Eq.trans (if_pos c3) (Eq.trans (qa_ie er4) (rfl)))
      rw [e0]
      exact ⟨rfl, hM, es⟩
    · replace h := qa_ift (q := 29) (qa_e rfl h) rfl (qa_T_ge c3)
      replace h := qa_aload (n := 0) (q := 30) (qa_e rfl h) rfl g0
      replace h := qa_gr (b := 4) (j := 0) (q := 33) (qa_e rfl h) rfl hM rfl (by decide)
      replace h := qa_gi (j := 0) (q := 36) (qa_e rfl h) rfl hM es rfl (by decide)
      replace h := qa_push (z := (6 : Int32)) (q := 38) (qa_e rfl h) rfl (by decide)
      by_cases c5 : (6 : Int32) < (σ 4 0)
      · replace h := qa_iff (q := 41) (qa_e rfl h) rfl (qa_F_le c5)
        replace h := qa_aload (n := 0) (q := 42) (qa_e rfl h) rfl g0
        replace h := qa_push (z := (-3 : Int32)) (q := 44) (qa_e rfl h) rfl (by decide)
        obtain ⟨r6, er6⟩ : ∃ x, x = (ma_9_3 (-3 : Int32) σ) := ⟨_, rfl⟩
        obtain ⟨M, h, hM, es⟩ := qa_c1 (y := 9) (as := [.ref 3, .int ((-3 : Int32))]) (rest := []) (i := .invokevirtual 9) (q := 47) (qa_e rfl h) (Or.inl rfl) rfl rfl (by decide) rfl (fun r hc => mb_9_3 hM es hc)
        rw [← er6] at h es
        have er := qa_ri (qa_e rfl h)
        subst er
        have e0 : ma_91_3 N a1 a2 σ = (r6.1, r6.2) := by exact Eq.trans (if_neg c1) (Eq.trans (if_neg c3) (Eq.trans (if_pos c5) (Eq.trans (qa_ie er6) (rfl))))
        rw [e0]
        exact ⟨rfl, hM, es⟩
      · replace h := qa_ift (q := 48) (qa_e rfl h) rfl (qa_T_le c5)
        replace h := qa_aload (n := 0) (q := 49) (qa_e rfl h) rfl g0
        replace h := qa_aload (n := 0) (q := 50) (qa_e rfl h) rfl g0
        replace h := qa_gr (b := 4) (j := 0) (q := 53) (qa_e rfl h) rfl hM rfl (by decide)
        replace h := qa_gr (b := 26) (j := 9) (q := 56) (qa_e rfl h) rfl hM rfl (by decide)
        replace h := qa_iload (n := 1) (q := 57) (qa_e rfl h) rfl g1
        replace h := qa_iaload (jn := a1.toNatClampNeg) (q := 58) (qa_e rfl h) rfl hM es rfl
        obtain ⟨r7, er7⟩ : ∃ x, x = (ma_92_3 N (σ 26 a1.toNatClampNeg) σ) := ⟨_, rfl⟩
        obtain ⟨M, h, hM, es⟩ := qa_c1 (y := 92) (as := [.ref 3, .int ((σ 26 a1.toNatClampNeg))]) (rest := []) (i := .invokevirtual 92) (q := 61) (qa_e rfl h) (Or.inl rfl) rfl rfl (by decide) rfl (fun r hc => mb_92_3 hN hM es hc)
        rw [← er7] at h es
        obtain ⟨lv, h, g, T⟩ := qa_istore (n := 3) (q := 62) (qa_e rfl h) rfl
        replace g0 := T _ _ g0 (by decide) (Or.inr rfl)
        replace g2 := T _ _ g2 (by decide) (Or.inr rfl)
        have g3 := g
        clear g T
        replace h := qa_iload (n := 2) (q := 63) (qa_e rfl h) rfl g2
        replace h := qa_push (z := (-1 : Int32)) (q := 64) (qa_e rfl h) rfl (by decide)
        by_cases c8 : a2 = (-1 : Int32)
        · replace h := qa_iff (q := 67) (qa_e rfl h) rfl (qa_F_ne c8)
          replace h := qa_iload (n := 3) (q := 68) (qa_e rfl h) rfl g3
          have er := qa_ri (qa_e rfl h)
          subst er
          have e0 : ma_91_3 N a1 a2 σ = (r7.1, r7.2) := by exact Eq.trans (if_neg c1) (Eq.trans (if_neg c3) (Eq.trans (if_neg c5) (Eq.trans (qa_ie er7) (Eq.trans (if_pos c8) (rfl)))))
          rw [e0]
          exact ⟨rfl, hM, es⟩
        · replace h := qa_ift (q := 69) (qa_e rfl h) rfl (qa_T_ne c8)
          replace h := qa_iload (n := 2) (q := 70) (qa_e rfl h) rfl g2
          replace h := qa_aload (n := 0) (q := 71) (qa_e rfl h) rfl g0
          replace h := qa_gr (b := 4) (j := 0) (q := 74) (qa_e rfl h) rfl hM rfl (by decide)
          replace h := qa_gi (j := 0) (q := 77) (qa_e rfl h) rfl hM es rfl (by decide)
          obtain ⟨lv, M, h, hM, es⟩ : ∃ lv M, q4_run f 91 91 lv [.int ((if a2 < (r7.2 4 0) then (r7.2 91 a2.toNatClampNeg) else (-9 : Int32)))] M 0 0 = some r ∧ qa_O M ∧ qa_s M = r7.2 := by
            by_cases c9 : a2 < (r7.2 4 0)
            · replace h := qa_iff (q := 80) (qa_e rfl h) rfl (qa_F_ge c9)
              replace h := qa_aload (n := 0) (q := 81) (qa_e rfl h) rfl g0
              replace h := qa_gr (b := 91) (j := 8) (q := 84) (qa_e rfl h) rfl hM rfl (by decide)
              replace h := qa_iload (n := 2) (q := 85) (qa_e rfl h) rfl g2
              replace h := qa_iaload (jn := a2.toNatClampNeg) (q := 86) (qa_e rfl h) rfl hM es rfl
              replace h := qa_goto (q := 91) (qa_e rfl h) rfl
              exact ⟨lv, M, (qa_hi1 c9 h), hM, es⟩
            · replace h := qa_ift (q := 89) (qa_e rfl h) rfl (qa_T_ge c9)
              replace h := qa_push (z := (-9 : Int32)) (q := 91) (qa_e rfl h) rfl (by decide)
              exact ⟨lv, M, (qa_hi0 c9 h), hM, es⟩
          have er := qa_ri (qa_e rfl h)
          subst er
          have e0 : ma_91_3 N a1 a2 σ = ((if a2 < (r7.2 4 0) then (r7.2 91 a2.toNatClampNeg) else (-9 : Int32)), r7.2) := by exact Eq.trans (if_neg c1) (Eq.trans (if_neg c3) (Eq.trans (if_neg c5) (Eq.trans (qa_ie er7) (Eq.trans (if_neg c8) (rfl)))))
          rw [e0]
          exact ⟨rfl, hM, es⟩
noncomputable def mc_99_3_p5 (N : Nat) (l1 : Nat) (l2 : Nat) (σ : qa_S) (s : Int32 × Int32) : (Int32 × Int32) ⊕ (Int32 × Int32) :=
  if s.1 < (σ 4 1) then
    qa_in ((ma_53_3 N s.1 l1 l2 σ)) fun r2 =>
    .inl ((s.1 + (1 : Int32)), (if r2 = (0 : Int32) then s.2 else (s.2 + (1 : Int32))))
  else
    .inr (s.1, s.2)
theorem md_99_3_p5 {N F : Nat} {r : Option Value × q4_M} {l1 : Nat} {l2 : Nat} {σ : qa_S} (hN : F ≤ N) : ∀ f n, f ≤ n → f ≤ F → ∀ (s : Int32 × Int32) (lv : List (Nat × Value)) (M : q4_M), qa_O M → qa_s M = σ → q4_get lv 0 = some (.ref 3) → q4_get lv 1 = some (.ref (l1)) → q4_get lv 2 = some (.ref (l2)) → q4_get lv 3 = some (.int (s.2)) → q4_get lv 4 = some (.int (s.1)) → q4_run f 99 5 lv [] M 0 0 = some r → ∃ lv M, q4_run F 99 37 lv [] M 0 0 = some r ∧ qa_O M ∧ qa_s M = σ ∧ q4_get lv 3 = some (.int ((qa_wh (fun s => s) (mc_99_3_p5 N l1 l2 σ) n s).2)) := by
  intro f
  induction f with
  | zero => intro n _ _ s lv M hM es _ _ _ _ _ h; cases h
  | succ f ih =>
    intro n hn hF s lv M hM es g0 g1 g2 g3 g4 h
    obtain ⟨n, rfl⟩ : ∃ n1, n = n1 + 1 := ⟨n - 1, by omega⟩
    replace hn : f ≤ n := Nat.le_of_succ_le_succ hn
    have hN := Nat.le_trans (Nat.le_of_succ_le hF) hN
    replace h := qa_iload (n := 4) (q := 7) (qa_d rfl h) rfl g4
    replace h := qa_aload (n := 0) (q := 8) (qa_e rfl h) rfl g0
    replace h := qa_gr (b := 4) (j := 0) (q := 11) (qa_e rfl h) rfl hM rfl (by decide)
    replace h := qa_gi (j := 1) (q := 14) (qa_e rfl h) rfl hM es rfl (by decide)
    by_cases c1 : s.1 < (σ 4 1)
    · replace h := qa_iff (q := 17) (qa_e rfl h) rfl (qa_F_ge c1)
      replace h := qa_aload (n := 0) (q := 18) (qa_e rfl h) rfl g0
      replace h := qa_iload (n := 4) (q := 20) (qa_e rfl h) rfl g4
      replace h := qa_aload (n := 1) (q := 21) (qa_e rfl h) rfl g1
      replace h := qa_aload (n := 2) (q := 22) (qa_e rfl h) rfl g2
      obtain ⟨r2, er2⟩ : ∃ x, x = (ma_53_3 N s.1 l1 l2 σ) := ⟨_, rfl⟩
      obtain ⟨M, h, hM, es⟩ := qa_c1 (y := 53) (as := [.ref 3, .int (s.1), .ref (l1), .ref (l2)]) (rest := []) (i := .invokevirtual 53) (q := 25) (qa_e rfl h) (Or.inl rfl) rfl rfl (by decide) rfl (fun r hc => mb_53_3 hN hM es hc)
      rw [← er2] at h
      obtain ⟨lv, M, h, hM, es, g0, g1, g2, g3, g4⟩ : ∃ lv M, q4_run f 99 31 lv [] M 0 0 = some r ∧ qa_O M ∧ qa_s M = σ ∧ q4_get lv 0 = some (.ref 3) ∧ q4_get lv 1 = some (.ref (l1)) ∧ q4_get lv 2 = some (.ref (l2)) ∧ q4_get lv 3 = some (.int ((if r2 = (0 : Int32) then s.2 else (s.2 + (1 : Int32))))) ∧ q4_get lv 4 = some (.int (s.1)) := by
        by_cases c3 : r2 = (0 : Int32)
        · replace h := qa_ict (q := 31) (qa_e rfl h) rfl (qa_T_eq c3)
          exact ⟨lv, M, h, hM, es, g0, g1, g2, (qa_gi1 c3 g3), g4⟩
        · replace h := qa_icf (q := 28) (qa_e rfl h) rfl (qa_F_eq c3)
          obtain ⟨lv, h, g, T⟩ := qa_iinc (n := 3) (z := (1 : Int32)) (q := 31) (qa_e rfl h) rfl (by decide) g3
          replace g0 := T _ _ g0 (by decide) (Or.inr rfl)
          replace g1 := T _ _ g1 (by decide) (Or.inr rfl)
          replace g2 := T _ _ g2 (by decide) (Or.inr rfl)
          replace g4 := T _ _ g4 (by decide) (Or.inr rfl)
          replace g3 := g
          clear g T
          exact ⟨lv, M, h, hM, es, g0, g1, g2, (qa_gi0 c3 g3), g4⟩
      obtain ⟨lv, h, g, T⟩ := qa_iinc (n := 4) (z := (1 : Int32)) (q := 34) (qa_e rfl h) rfl (by decide) g4
      replace g0 := T _ _ g0 (by decide) (Or.inr rfl)
      replace g1 := T _ _ g1 (by decide) (Or.inr rfl)
      replace g2 := T _ _ g2 (by decide) (Or.inr rfl)
      replace g3 := T _ _ g3 (by decide) (Or.inr rfl)
      replace g4 := g
      clear g T
      replace h := qa_goto (q := 5) (qa_e rfl h) rfl
      have e0 : mc_99_3_p5 N l1 l2 σ s = .inl ((s.1 + (1 : Int32)), (if r2 = (0 : Int32) then s.2 else (s.2 + (1 : Int32)))) := by exact Eq.trans (if_pos c1) (Eq.trans (qa_ie er2) (rfl))
      rw [qa_whl e0]
      exact ih n hn (Nat.le_of_succ_le hF) ((s.1 + (1 : Int32)), (if r2 = (0 : Int32) then s.2 else (s.2 + (1 : Int32)))) _ _ hM es g0 g1 g2 g3 g4 h
    · replace h := qa_ift (q := 37) (qa_e rfl h) rfl (qa_T_ge c1)
      have e0 : mc_99_3_p5 N l1 l2 σ s = .inr (s.1, s.2) := by exact Eq.trans (if_neg c1) (rfl)
      rw [qa_whr e0]
      exact ⟨_, _, q61_mono f F _ _ _ _ _ _ _ _ (Nat.le_of_succ_le hF) h, hM, es, g3⟩
/-- BuriedBySevens, howManyTellApart, ([I[I)I -/
noncomputable def ma_99_3 (N : Nat) (a1 : Nat) (a2 : Nat) (σ : qa_S) : Int32 :=
  qa_in ((qa_wh (fun s => s) (mc_99_3_p5 N a1 a2 σ) N ((0 : Int32), (0 : Int32)))) fun r1 =>
  r1.2
theorem mb_99_3 {f N : Nat} (hN : f ≤ N) {M : q4_M} {r : Option Value × q4_M} {σ : qa_S} {a1 : Nat} {a2 : Nat} (hM : qa_O M) (es : qa_s M = σ) (h : q4_run f 99 0 (lv_args 0 [.ref 3, .ref (a1), .ref (a2)]) [] M 0 0 = some r) : r.1 = some (.int ((ma_99_3 N a1 a2 σ))) ∧ qa_O r.2 ∧ qa_s r.2 = σ := by
  obtain ⟨lv, el⟩ : ∃ l, l = lv_args 0 [.ref 3, .ref (a1), .ref (a2)] := ⟨_, rfl⟩
  have g0 : q4_get lv 0 = some (.ref 3) := by rw [el]; rfl
  have g1 : q4_get lv 1 = some (.ref (a1)) := by rw [el]; rfl
  have g2 : q4_get lv 2 = some (.ref (a2)) := by rw [el]; rfl
  rw [← el] at h
  clear el
  replace h := qa_push (z := (0 : Int32)) (q := 1) (qa_e rfl h) rfl (by decide)
  obtain ⟨lv, h, g, T⟩ := qa_istore (n := 3) (q := 2) (qa_e rfl h) rfl
  replace g0 := T _ _ g0 (by decide) (Or.inr rfl)
  replace g1 := T _ _ g1 (by decide) (Or.inr rfl)
  replace g2 := T _ _ g2 (by decide) (Or.inr rfl)
  have g3 := g
  clear g T
  replace h := qa_push (z := (0 : Int32)) (q := 3) (qa_e rfl h) rfl (by decide)
  obtain ⟨lv, h, g, T⟩ := qa_istore (n := 4) (q := 5) (qa_e rfl h) rfl
  replace g0 := T _ _ g0 (by decide) (Or.inr rfl)
  replace g1 := T _ _ g1 (by decide) (Or.inr rfl)
  replace g2 := T _ _ g2 (by decide) (Or.inr rfl)
  replace g3 := T _ _ g3 (by decide) (Or.inr rfl)
  have g4 := g
  clear g T
  obtain ⟨r1, er1⟩ : ∃ x, x = (qa_wh (fun s => s) (mc_99_3_p5 N a1 a2 σ) N ((0 : Int32), (0 : Int32))) := ⟨_, rfl⟩
  have L := md_99_3_p5 (l1 := a1) (l2 := a2) (σ := σ) (F := f) (N := N) (r := r) hN f N hN (Nat.le_refl f) ((0 : Int32), (0 : Int32)) _ _ hM es g0 g1 g2 g3 g4 h
  rw [← er1] at L
  obtain ⟨lv, M, h, hM, es, g3⟩ := L
  replace h := qa_iload (n := 3) (q := 38) (qa_e rfl h) rfl g3
  have er := qa_ri (qa_e rfl h)
  subst er
  have e0 : ma_99_3 N a1 a2 σ = r1.2 := by exact Eq.trans (qa_ie er1) (rfl)
  rw [e0]
  exact ⟨rfl, hM, es⟩
noncomputable def mc_98_3_p27 (N : Nat) (l1 : Int32) (s : Int32 × Int32 × Int32 × qa_S) : (Int32 × Int32 × Int32 × qa_S) ⊕ (Int32 × Int32 × Int32 × qa_S) :=
  if s.1 < (s.2.2.2 4 0) then
    qa_in ((ma_47_4 N 7 (((1 : Int32) <<< (s.1 &&& 31)) ^^^ (-1 : Int32)) (0 : Int32) 95 s.2.2.2)) fun m3 =>
    qa_in ((ma_99_3 N 94 95 m3)) fun r4 =>
    qa_in ((if (s.2.2.2 7 s.1.toNatClampNeg) = (0 : Int32) then s.2.2.2 else m3)) fun m7 =>
    .inl ((s.1 + (1 : Int32)), (if (s.2.2.2 7 s.1.toNatClampNeg) = (0 : Int32) then s.2.1 else (if s.2.1 = (-9 : Int32) then s.1 else (if r4 < s.2.2.1 then s.1 else s.2.1))), (if (s.2.2.2 7 s.1.toNatClampNeg) = (0 : Int32) then s.2.2.1 else (if s.2.1 = (-9 : Int32) then r4 else (if r4 < s.2.2.1 then r4 else s.2.2.1))), m7)
  else
    .inr (s.1, s.2.1, s.2.2.1, s.2.2.2)
theorem md_98_3_p27 {N F : Nat} {r : Option Value × q4_M} {l1 : Int32} (hN : F ≤ N) : ∀ f n, f ≤ n → f ≤ F → ∀ (s : Int32 × Int32 × Int32 × qa_S) (lv : List (Nat × Value)) (M : q4_M), qa_O M → qa_s M = s.2.2.2 → q4_get lv 0 = some (.ref 3) → q4_get lv 1 = some (.int (l1)) → q4_get lv 2 = some (.int (s.2.1)) → q4_get lv 3 = some (.int (s.2.2.1)) → q4_get lv 4 = some (.int (s.1)) → q4_run f 98 27 lv [] M 0 0 = some r → ∃ lv M, q4_run F 98 118 lv [] M 0 0 = some r ∧ qa_O M ∧ qa_s M = (qa_wh (fun s => s) (mc_98_3_p27 N l1) n s).2.2.2 ∧ q4_get lv 1 = some (.int (l1)) ∧ q4_get lv 2 = some (.int ((qa_wh (fun s => s) (mc_98_3_p27 N l1) n s).2.1)) ∧ q4_get lv 3 = some (.int ((qa_wh (fun s => s) (mc_98_3_p27 N l1) n s).2.2.1)) := by
  intro f
  induction f with
  | zero => intro n _ _ s lv M hM es _ _ _ _ _ h; cases h
  | succ f ih =>
    intro n hn hF s lv M hM es g0 g1 g2 g3 g4 h
    obtain ⟨n, rfl⟩ : ∃ n1, n = n1 + 1 := ⟨n - 1, by omega⟩
    replace hn : f ≤ n := Nat.le_of_succ_le_succ hn
    have hN := Nat.le_trans (Nat.le_of_succ_le hF) hN
    replace h := qa_iload (n := 4) (q := 29) (qa_d rfl h) rfl g4
    replace h := qa_aload (n := 0) (q := 30) (qa_e rfl h) rfl g0
    replace h := qa_gr (b := 4) (j := 0) (q := 33) (qa_e rfl h) rfl hM rfl (by decide)
    replace h := qa_gi (j := 0) (q := 36) (qa_e rfl h) rfl hM es rfl (by decide)
    by_cases c1 : s.1 < (s.2.2.2 4 0)
    · replace h := qa_iff (q := 39) (qa_e rfl h) rfl (qa_F_ge c1)
      replace h := qa_aload (n := 0) (q := 40) (qa_e rfl h) rfl g0
      replace h := qa_gr (b := 4) (j := 0) (q := 43) (qa_e rfl h) rfl hM rfl (by decide)
      replace h := qa_gr (b := 7) (j := 4) (q := 46) (qa_e rfl h) rfl hM rfl (by decide)
      replace h := qa_iload (n := 4) (q := 48) (qa_e rfl h) rfl g4
      replace h := qa_iaload (jn := s.1.toNatClampNeg) (q := 49) (qa_e rfl h) rfl hM es rfl
      obtain ⟨m3, em3⟩ : ∃ x, x = (ma_47_4 N 7 (((1 : Int32) <<< (s.1 &&& 31)) ^^^ (-1 : Int32)) (0 : Int32) 95 s.2.2.2) := ⟨_, rfl⟩
      obtain ⟨r4, er4⟩ : ∃ x, x = (ma_99_3 N 94 95 m3) := ⟨_, rfl⟩
      obtain ⟨m7, em7⟩ : ∃ x, x = (if (s.2.2.2 7 s.1.toNatClampNeg) = (0 : Int32) then s.2.2.2 else m3) := ⟨_, rfl⟩
      obtain ⟨lv, M, h, hM, es, g0, g1, g2, g3, g4⟩ : ∃ lv M, q4_run f 98 112 lv [] M 0 0 = some r ∧ qa_O M ∧ qa_s M = m7 ∧ q4_get lv 0 = some (.ref 3) ∧ q4_get lv 1 = some (.int (l1)) ∧ q4_get lv 2 = some (.int ((if (s.2.2.2 7 s.1.toNatClampNeg) = (0 : Int32) then s.2.1 else (if s.2.1 = (-9 : Int32) then s.1 else (if r4 < s.2.2.1 then s.1 else s.2.1))))) ∧ q4_get lv 3 = some (.int ((if (s.2.2.2 7 s.1.toNatClampNeg) = (0 : Int32) then s.2.2.1 else (if s.2.1 = (-9 : Int32) then r4 else (if r4 < s.2.2.1 then r4 else s.2.2.1))))) ∧ q4_get lv 4 = some (.int (s.1)) := by
        by_cases c2 : (s.2.2.2 7 s.1.toNatClampNeg) = (0 : Int32)
        · replace h := qa_icf (q := 52) (qa_e rfl h) rfl (qa_F_ne c2)
          replace h := qa_goto (q := 112) (qa_e rfl h) rfl
          exact ⟨lv, M, h, hM, ((qa_ms1 c2 es).trans em7.symm), g0, g1, (qa_gi1 c2 g2), (qa_gi1 c2 g3), g4⟩
        · replace h := qa_ict (q := 55) (qa_e rfl h) rfl (qa_T_ne c2)
          replace h := qa_aload (n := 0) (q := 56) (qa_e rfl h) rfl g0
          replace h := qa_gr (b := 4) (j := 0) (q := 59) (qa_e rfl h) rfl hM rfl (by decide)
          replace h := qa_aload (n := 0) (q := 60) (qa_e rfl h) rfl g0
          replace h := qa_gr (b := 4) (j := 0) (q := 63) (qa_e rfl h) rfl hM rfl (by decide)
          replace h := qa_gr (b := 7) (j := 4) (q := 66) (qa_e rfl h) rfl hM rfl (by decide)
          replace h := qa_push (z := (1 : Int32)) (q := 67) (qa_e rfl h) rfl (by decide)
          replace h := qa_iload (n := 4) (q := 69) (qa_e rfl h) rfl g4
          replace h := qa_ishl (q := 70) (qa_e rfl h) rfl
          replace h := qa_push (z := (-1 : Int32)) (q := 71) (qa_e rfl h) rfl (by decide)
          replace h := qa_ixor (q := 72) (qa_e rfl h) rfl
          replace h := qa_push (z := (0 : Int32)) (q := 73) (qa_e rfl h) rfl (by decide)
          replace h := qa_aload (n := 0) (q := 74) (qa_e rfl h) rfl g0
          replace h := qa_gr (b := 95) (j := 12) (q := 77) (qa_e rfl h) rfl hM rfl (by decide)
          obtain ⟨M, h, hM, es⟩ := qa_c0 (y := 47) (as := [.ref 4, .ref 7, .int ((((1 : Int32) <<< (s.1 &&& 31)) ^^^ (-1 : Int32))), .int ((0 : Int32)), .ref 95]) (rest := []) (i := .invokevirtual 47) (q := 80) (qa_e rfl h) (Or.inl rfl) rfl rfl (by decide) rfl (fun r hc => mb_47_4 hN hM es hc)
          rw [← em3] at es
          replace h := qa_aload (n := 0) (q := 81) (qa_e rfl h) rfl g0
          replace h := qa_aload (n := 0) (q := 82) (qa_e rfl h) rfl g0
          replace h := qa_gr (b := 94) (j := 11) (q := 85) (qa_e rfl h) rfl hM rfl (by decide)
          replace h := qa_aload (n := 0) (q := 86) (qa_e rfl h) rfl g0
          replace h := qa_gr (b := 95) (j := 12) (q := 89) (qa_e rfl h) rfl hM rfl (by decide)
          obtain ⟨M, h, hM, es⟩ := qa_c1 (y := 99) (as := [.ref 3, .ref 94, .ref 95]) (rest := []) (i := .invokevirtual 99) (q := 92) (qa_e rfl h) (Or.inl rfl) rfl rfl (by decide) rfl (fun r hc => mb_99_3 hN hM es hc)
          rw [← er4] at h
          obtain ⟨lv, h, g, T⟩ := qa_istore (n := 5) (q := 94) (qa_e rfl h) rfl
          replace g0 := T _ _ g0 (by decide) (Or.inr rfl)
          replace g1 := T _ _ g1 (by decide) (Or.inr rfl)
          replace g2 := T _ _ g2 (by decide) (Or.inr rfl)
          replace g3 := T _ _ g3 (by decide) (Or.inr rfl)
          replace g4 := T _ _ g4 (by decide) (Or.inr rfl)
          have g5 := g
          clear g T
          replace h := qa_iload (n := 2) (q := 95) (qa_e rfl h) rfl g2
          replace h := qa_push (z := (-9 : Int32)) (q := 97) (qa_e rfl h) rfl (by decide)
          obtain ⟨lv, M, h, hM, es, g0, g1, g2, g3, g4⟩ : ∃ lv M, q4_run f 98 112 lv [] M 0 0 = some r ∧ qa_O M ∧ qa_s M = m3 ∧ q4_get lv 0 = some (.ref 3) ∧ q4_get lv 1 = some (.int (l1)) ∧ q4_get lv 2 = some (.int ((if s.2.1 = (-9 : Int32) then s.1 else (if r4 < s.2.2.1 then s.1 else s.2.1)))) ∧ q4_get lv 3 = some (.int ((if s.2.1 = (-9 : Int32) then r4 else (if r4 < s.2.2.1 then r4 else s.2.2.1)))) ∧ q4_get lv 4 = some (.int (s.1)) := by
            by_cases c5 : s.2.1 = (-9 : Int32)
            · replace h := qa_ift (q := 106) (qa_e rfl h) rfl (qa_T_eq c5)
              replace h := qa_iload (n := 4) (q := 108) (qa_e rfl h) rfl g4
              obtain ⟨lv, h, g, T⟩ := qa_istore (n := 2) (q := 109) (qa_e rfl h) rfl
              replace g0 := T _ _ g0 (by decide) (Or.inr rfl)
              replace g1 := T _ _ g1 (by decide) (Or.inr rfl)
              replace g4 := T _ _ g4 (by decide) (Or.inr rfl)
              replace g5 := T _ _ g5 (by decide) (Or.inr rfl)
              have g2 := g
              clear g T
              replace h := qa_iload (n := 5) (q := 111) (qa_e rfl h) rfl g5
              obtain ⟨lv, h, g, T⟩ := qa_istore (n := 3) (q := 112) (qa_e rfl h) rfl
              replace g0 := T _ _ g0 (by decide) (Or.inr rfl)
              replace g1 := T _ _ g1 (by decide) (Or.inr rfl)
              replace g2 := T _ _ g2 (by decide) (Or.inr rfl)
              replace g4 := T _ _ g4 (by decide) (Or.inr rfl)
              have g3 := g
              clear g T
              exact ⟨lv, M, h, hM, es, g0, g1, (qa_gi1 c5 g2), (qa_gi1 c5 g3), g4⟩
            · replace h := qa_iff (q := 100) (qa_e rfl h) rfl (qa_F_eq c5)
              replace h := qa_iload (n := 5) (q := 102) (qa_e rfl h) rfl g5
              replace h := qa_iload (n := 3) (q := 103) (qa_e rfl h) rfl g3
              obtain ⟨lv, M, h, hM, es, g0, g1, g2, g3, g4⟩ : ∃ lv M, q4_run f 98 112 lv [] M 0 0 = some r ∧ qa_O M ∧ qa_s M = m3 ∧ q4_get lv 0 = some (.ref 3) ∧ q4_get lv 1 = some (.int (l1)) ∧ q4_get lv 2 = some (.int ((if r4 < s.2.2.1 then s.1 else s.2.1))) ∧ q4_get lv 3 = some (.int ((if r4 < s.2.2.1 then r4 else s.2.2.1))) ∧ q4_get lv 4 = some (.int (s.1)) := by
                by_cases c6 : r4 < s.2.2.1
                · replace h := qa_iff (q := 106) (qa_e rfl h) rfl (qa_F_ge c6)
                  replace h := qa_iload (n := 4) (q := 108) (qa_e rfl h) rfl g4
                  obtain ⟨lv, h, g, T⟩ := qa_istore (n := 2) (q := 109) (qa_e rfl h) rfl
                  replace g0 := T _ _ g0 (by decide) (Or.inr rfl)
                  replace g1 := T _ _ g1 (by decide) (Or.inr rfl)
                  replace g4 := T _ _ g4 (by decide) (Or.inr rfl)
                  replace g5 := T _ _ g5 (by decide) (Or.inr rfl)
                  have g2 := g
                  clear g T
                  replace h := qa_iload (n := 5) (q := 111) (qa_e rfl h) rfl g5
                  obtain ⟨lv, h, g, T⟩ := qa_istore (n := 3) (q := 112) (qa_e rfl h) rfl
                  replace g0 := T _ _ g0 (by decide) (Or.inr rfl)
                  replace g1 := T _ _ g1 (by decide) (Or.inr rfl)
                  replace g2 := T _ _ g2 (by decide) (Or.inr rfl)
                  replace g4 := T _ _ g4 (by decide) (Or.inr rfl)
                  have g3 := g
                  clear g T
                  exact ⟨lv, M, h, hM, es, g0, g1, (qa_gi1 c6 g2), (qa_gi1 c6 g3), g4⟩
                · replace h := qa_ift (q := 112) (qa_e rfl h) rfl (qa_T_ge c6)
                  exact ⟨lv, M, h, hM, es, g0, g1, (qa_gi0 c6 g2), (qa_gi0 c6 g3), g4⟩
              exact ⟨lv, M, h, hM, es, g0, g1, (qa_gi0 c5 g2), (qa_gi0 c5 g3), g4⟩
          exact ⟨lv, M, h, hM, ((qa_ms0 c2 es).trans em7.symm), g0, g1, (qa_gi0 c2 g2), (qa_gi0 c2 g3), g4⟩
      obtain ⟨lv, h, g, T⟩ := qa_iinc (n := 4) (z := (1 : Int32)) (q := 115) (qa_e rfl h) rfl (by decide) g4
      replace g0 := T _ _ g0 (by decide) (Or.inr rfl)
      replace g1 := T _ _ g1 (by decide) (Or.inr rfl)
      replace g2 := T _ _ g2 (by decide) (Or.inr rfl)
      replace g3 := T _ _ g3 (by decide) (Or.inr rfl)
      replace g4 := g
      clear g T
      replace h := qa_goto (q := 27) (qa_e rfl h) rfl
      have e0 : mc_98_3_p27 N l1 s = .inl ((s.1 + (1 : Int32)), (if (s.2.2.2 7 s.1.toNatClampNeg) = (0 : Int32) then s.2.1 else (if s.2.1 = (-9 : Int32) then s.1 else (if r4 < s.2.2.1 then s.1 else s.2.1))), (if (s.2.2.2 7 s.1.toNatClampNeg) = (0 : Int32) then s.2.2.1 else (if s.2.1 = (-9 : Int32) then r4 else (if r4 < s.2.2.1 then r4 else s.2.2.1))), m7) := by exact Eq.trans (if_pos c1) (Eq.trans (qa_ie em3) (Eq.trans (qa_ie er4) (Eq.trans (qa_ie em7) (rfl))))
      rw [qa_whl e0]
      exact ih n hn (Nat.le_of_succ_le hF) ((s.1 + (1 : Int32)), (if (s.2.2.2 7 s.1.toNatClampNeg) = (0 : Int32) then s.2.1 else (if s.2.1 = (-9 : Int32) then s.1 else (if r4 < s.2.2.1 then s.1 else s.2.1))), (if (s.2.2.2 7 s.1.toNatClampNeg) = (0 : Int32) then s.2.2.1 else (if s.2.1 = (-9 : Int32) then r4 else (if r4 < s.2.2.1 then r4 else s.2.2.1))), m7) _ _ hM es g0 g1 g2 g3 g4 h
    · replace h := qa_ift (q := 118) (qa_e rfl h) rfl (qa_T_ge c1)
      have e0 : mc_98_3_p27 N l1 s = .inr (s.1, s.2.1, s.2.2.1, s.2.2.2) := by exact Eq.trans (if_neg c1) (rfl)
      rw [qa_whr e0]
      exact ⟨_, _, q61_mono f F _ _ _ _ _ _ _ _ (Nat.le_of_succ_le hF) h, hM, es, g1, g2, g3⟩
/-- BuriedBySevens, gone, (I)I -/
noncomputable def ma_98_3 (N : Nat) (a1 : Int32) (σ : qa_S) : Int32 × qa_S :=
  if (ma_57 a1) = (0 : Int32) then
    qa_in ((ma_9_3 (-2 : Int32) σ)) fun r2 =>
    (r2.1, r2.2)
  else
    qa_in ((ma_46_3 N σ)) fun m3 =>
    qa_in ((qa_wh (fun s => s) (mc_98_3_p27 N a1) N ((0 : Int32), (-9 : Int32), (-9 : Int32), m3))) fun r4 =>
    ((if a1 = (0 : Int32) then r4.2.1 else r4.2.2.1), r4.2.2.2)
theorem mb_98_3 {f N : Nat} (hN : f ≤ N) {M : q4_M} {r : Option Value × q4_M} {σ : qa_S} {a1 : Int32} (hM : qa_O M) (es : qa_s M = σ) (h : q4_run f 98 0 (lv_args 0 [.ref 3, .int (a1)]) [] M 0 0 = some r) : r.1 = some (.int ((ma_98_3 N a1 σ).1)) ∧ qa_O r.2 ∧ qa_s r.2 = (ma_98_3 N a1 σ).2 := by
  obtain ⟨lv, el⟩ : ∃ l, l = lv_args 0 [.ref 3, .int (a1)] := ⟨_, rfl⟩
  have g0 : q4_get lv 0 = some (.ref 3) := by rw [el]; rfl
  have g1 : q4_get lv 1 = some (.int (a1)) := by rw [el]; rfl
  rw [← el] at h
  clear el
  replace h := qa_iload (n := 1) (q := 1) (qa_e rfl h) rfl g1
  obtain ⟨M, h, hM, es⟩ := qa_c1 (y := 57) (as := [.int (a1)]) (rest := []) (i := .invokestatic 57) (q := 4) (qa_e rfl h) (Or.inr rfl) rfl rfl (by decide) rfl (fun r hc => mb_57 hM es hc)
  by_cases c1 : (ma_57 a1) = (0 : Int32)
  · replace h := qa_icf (q := 7) (qa_e rfl h) rfl (qa_F_ne c1)
    replace h := qa_aload (n := 0) (q := 8) (qa_e rfl h) rfl g0
    replace h := qa_push (z := (-2 : Int32)) (q := 10) (qa_e rfl h) rfl (by decide)
    obtain ⟨r2, er2⟩ : ∃ x, x = (ma_9_3 (-2 : Int32) σ) := ⟨_, rfl⟩
    obtain ⟨M, h, hM, es⟩ := qa_c1 (y := 9) (as := [.ref 3, .int ((-2 : Int32))]) (rest := []) (i := .invokevirtual 9) (q := 13) (qa_e rfl h) (Or.inl rfl) rfl rfl (by decide) rfl (fun r hc => mb_9_3 hM es hc)
    rw [← er2] at h es
    have er := qa_ri (qa_e rfl h)
    subst er
    have e0 : ma_98_3 N a1 σ = (r2.1, r2.2) := by exact Eq.trans (if_pos c1) (Eq.trans (qa_ie er2) (rfl))
    rw [e0]
    exact ⟨rfl, hM, es⟩
  · replace h := qa_ict (q := 14) (qa_e rfl h) rfl (qa_T_ne c1)
    replace h := qa_aload (n := 0) (q := 15) (qa_e rfl h) rfl g0
    obtain ⟨m3, em3⟩ : ∃ x, x = (ma_46_3 N σ) := ⟨_, rfl⟩
    obtain ⟨M, h, hM, es⟩ := qa_c0 (y := 46) (as := [.ref 3]) (rest := []) (i := .invokevirtual 46) (q := 18) (qa_e rfl h) (Or.inl rfl) rfl rfl (by decide) rfl (fun r hc => mb_46_3 hN hM es hc)
    rw [← em3] at es
    replace h := qa_push (z := (-9 : Int32)) (q := 20) (qa_e rfl h) rfl (by decide)
    obtain ⟨lv, h, g, T⟩ := qa_istore (n := 2) (q := 21) (qa_e rfl h) rfl
    replace g0 := T _ _ g0 (by decide) (Or.inr rfl)
    replace g1 := T _ _ g1 (by decide) (Or.inr rfl)
    have g2 := g
    clear g T
    replace h := qa_push (z := (-9 : Int32)) (q := 23) (qa_e rfl h) rfl (by decide)
    obtain ⟨lv, h, g, T⟩ := qa_istore (n := 3) (q := 24) (qa_e rfl h) rfl
    replace g0 := T _ _ g0 (by decide) (Or.inr rfl)
    replace g1 := T _ _ g1 (by decide) (Or.inr rfl)
    replace g2 := T _ _ g2 (by decide) (Or.inr rfl)
    have g3 := g
    clear g T
    replace h := qa_push (z := (0 : Int32)) (q := 25) (qa_e rfl h) rfl (by decide)
    obtain ⟨lv, h, g, T⟩ := qa_istore (n := 4) (q := 27) (qa_e rfl h) rfl
    replace g0 := T _ _ g0 (by decide) (Or.inr rfl)
    replace g1 := T _ _ g1 (by decide) (Or.inr rfl)
    replace g2 := T _ _ g2 (by decide) (Or.inr rfl)
    replace g3 := T _ _ g3 (by decide) (Or.inr rfl)
    have g4 := g
    clear g T
    obtain ⟨r4, er4⟩ : ∃ x, x = (qa_wh (fun s => s) (mc_98_3_p27 N a1) N ((0 : Int32), (-9 : Int32), (-9 : Int32), m3)) := ⟨_, rfl⟩
    have L := md_98_3_p27 (l1 := a1) (F := f) (N := N) (r := r) hN f N hN (Nat.le_refl f) ((0 : Int32), (-9 : Int32), (-9 : Int32), m3) _ _ hM es g0 g1 g2 g3 g4 h
    rw [← er4] at L
    obtain ⟨lv, M, h, hM, es, g1, g2, g3⟩ := L
    replace h := qa_iload (n := 1) (q := 119) (qa_e rfl h) rfl g1
    obtain ⟨lv, M, h, hM, es⟩ : ∃ lv M, q4_run f 98 127 lv [.int ((if a1 = (0 : Int32) then r4.2.1 else r4.2.2.1))] M 0 0 = some r ∧ qa_O M ∧ qa_s M = r4.2.2.2 := by
      by_cases c5 : a1 = (0 : Int32)
      · replace h := qa_icf (q := 122) (qa_e rfl h) rfl (qa_F_ne c5)
        replace h := qa_iload (n := 2) (q := 123) (qa_e rfl h) rfl g2
        replace h := qa_goto (q := 127) (qa_e rfl h) rfl
        exact ⟨lv, M, (qa_hi1 c5 h), hM, es⟩
      · replace h := qa_ict (q := 126) (qa_e rfl h) rfl (qa_T_ne c5)
        replace h := qa_iload (n := 3) (q := 127) (qa_e rfl h) rfl g3
        exact ⟨lv, M, (qa_hi0 c5 h), hM, es⟩
    have er := qa_ri (qa_e rfl h)
    subst er
    have e0 : ma_98_3 N a1 σ = ((if a1 = (0 : Int32) then r4.2.1 else r4.2.2.1), r4.2.2.2) := by exact Eq.trans (if_neg c1) (Eq.trans (qa_ie em3) (Eq.trans (qa_ie er4) (rfl)))
    rw [e0]
    exact ⟨rfl, hM, es⟩
/-- BuriedBySevens, mixWereItEmpty, (I)V -/
noncomputable def ma_101_3 (N : Nat) (a1 : Int32) (σ : qa_S) : qa_S :=
  qa_in (qa_u σ 5 a1.toNatClampNeg (4 : Int32)) fun m1 =>
  qa_in ((ma_29_4 N m1)) fun m2 =>
  qa_in ((ma_47_4 N 7 (-1 : Int32) (0 : Int32) 95 m2)) fun m3 =>
  qa_in (qa_u m3 5 a1.toNatClampNeg (σ 5 a1.toNatClampNeg)) fun m4 =>
  qa_in ((ma_29_4 N m4)) fun m5 =>
  m5
theorem mb_101_3 {f N : Nat} (hN : f ≤ N) {M : q4_M} {r : Option Value × q4_M} {σ : qa_S} {a1 : Int32} (hM : qa_O M) (es : qa_s M = σ) (h : q4_run f 101 0 (lv_args 0 [.ref 3, .int (a1)]) [] M 0 0 = some r) : r.1 = none ∧ qa_O r.2 ∧ qa_s r.2 = (ma_101_3 N a1 σ) := by
  obtain ⟨lv, el⟩ : ∃ l, l = lv_args 0 [.ref 3, .int (a1)] := ⟨_, rfl⟩
  have g0 : q4_get lv 0 = some (.ref 3) := by rw [el]; rfl
  have g1 : q4_get lv 1 = some (.int (a1)) := by rw [el]; rfl
  rw [← el] at h
  clear el
  replace h := qa_aload (n := 0) (q := 1) (qa_e rfl h) rfl g0
  replace h := qa_gr (b := 4) (j := 0) (q := 4) (qa_e rfl h) rfl hM rfl (by decide)
  replace h := qa_gr (b := 5) (j := 2) (q := 7) (qa_e rfl h) rfl hM rfl (by decide)
  replace h := qa_iload (n := 1) (q := 8) (qa_e rfl h) rfl g1
  replace h := qa_iaload (jn := a1.toNatClampNeg) (q := 9) (qa_e rfl h) rfl hM es rfl
  obtain ⟨lv, h, g, T⟩ := qa_istore (n := 2) (q := 10) (qa_e rfl h) rfl
  replace g0 := T _ _ g0 (by decide) (Or.inr rfl)
  replace g1 := T _ _ g1 (by decide) (Or.inr rfl)
  have g2 := g
  clear g T
  replace h := qa_aload (n := 0) (q := 11) (qa_e rfl h) rfl g0
  replace h := qa_gr (b := 4) (j := 0) (q := 14) (qa_e rfl h) rfl hM rfl (by decide)
  replace h := qa_gr (b := 5) (j := 2) (q := 17) (qa_e rfl h) rfl hM rfl (by decide)
  replace h := qa_iload (n := 1) (q := 18) (qa_e rfl h) rfl g1
  replace h := qa_push (z := (4 : Int32)) (q := 19) (qa_e rfl h) rfl (by decide)
  obtain ⟨m1, em1⟩ : ∃ x, x = qa_u σ 5 a1.toNatClampNeg (4 : Int32) := ⟨_, rfl⟩
  obtain ⟨M, h, hM, es⟩ := qa_iastore (jn := a1.toNatClampNeg) (q := 20) (qa_e rfl h) rfl hM es rfl
  rw [← em1] at es
  replace h := qa_aload (n := 0) (q := 21) (qa_e rfl h) rfl g0
  replace h := qa_gr (b := 4) (j := 0) (q := 24) (qa_e rfl h) rfl hM rfl (by decide)
  obtain ⟨m2, em2⟩ : ∃ x, x = (ma_29_4 N m1) := ⟨_, rfl⟩
  obtain ⟨M, h, hM, es⟩ := qa_c0 (y := 29) (as := [.ref 4]) (rest := []) (i := .invokevirtual 29) (q := 27) (qa_e rfl h) (Or.inl rfl) rfl rfl (by decide) rfl (fun r hc => mb_29_4 hN hM es hc)
  rw [← em2] at es
  replace h := qa_aload (n := 0) (q := 28) (qa_e rfl h) rfl g0
  replace h := qa_gr (b := 4) (j := 0) (q := 31) (qa_e rfl h) rfl hM rfl (by decide)
  replace h := qa_aload (n := 0) (q := 32) (qa_e rfl h) rfl g0
  replace h := qa_gr (b := 4) (j := 0) (q := 35) (qa_e rfl h) rfl hM rfl (by decide)
  replace h := qa_gr (b := 7) (j := 4) (q := 38) (qa_e rfl h) rfl hM rfl (by decide)
  replace h := qa_push (z := (-1 : Int32)) (q := 39) (qa_e rfl h) rfl (by decide)
  replace h := qa_push (z := (0 : Int32)) (q := 40) (qa_e rfl h) rfl (by decide)
  replace h := qa_aload (n := 0) (q := 41) (qa_e rfl h) rfl g0
  replace h := qa_gr (b := 95) (j := 12) (q := 44) (qa_e rfl h) rfl hM rfl (by decide)
  obtain ⟨m3, em3⟩ : ∃ x, x = (ma_47_4 N 7 (-1 : Int32) (0 : Int32) 95 m2) := ⟨_, rfl⟩
  obtain ⟨M, h, hM, es⟩ := qa_c0 (y := 47) (as := [.ref 4, .ref 7, .int ((-1 : Int32)), .int ((0 : Int32)), .ref 95]) (rest := []) (i := .invokevirtual 47) (q := 47) (qa_e rfl h) (Or.inl rfl) rfl rfl (by decide) rfl (fun r hc => mb_47_4 hN hM es hc)
  rw [← em3] at es
  replace h := qa_aload (n := 0) (q := 48) (qa_e rfl h) rfl g0
  replace h := qa_gr (b := 4) (j := 0) (q := 51) (qa_e rfl h) rfl hM rfl (by decide)
  replace h := qa_gr (b := 5) (j := 2) (q := 54) (qa_e rfl h) rfl hM rfl (by decide)
  replace h := qa_iload (n := 1) (q := 55) (qa_e rfl h) rfl g1
  replace h := qa_iload (n := 2) (q := 56) (qa_e rfl h) rfl g2
  obtain ⟨m4, em4⟩ : ∃ x, x = qa_u m3 5 a1.toNatClampNeg (σ 5 a1.toNatClampNeg) := ⟨_, rfl⟩
  obtain ⟨M, h, hM, es⟩ := qa_iastore (jn := a1.toNatClampNeg) (q := 57) (qa_e rfl h) rfl hM es rfl
  rw [← em4] at es
  replace h := qa_aload (n := 0) (q := 58) (qa_e rfl h) rfl g0
  replace h := qa_gr (b := 4) (j := 0) (q := 61) (qa_e rfl h) rfl hM rfl (by decide)
  obtain ⟨m5, em5⟩ : ∃ x, x = (ma_29_4 N m4) := ⟨_, rfl⟩
  obtain ⟨M, h, hM, es⟩ := qa_c0 (y := 29) (as := [.ref 4]) (rest := []) (i := .invokevirtual 29) (q := 64) (qa_e rfl h) (Or.inl rfl) rfl rfl (by decide) rfl (fun r hc => mb_29_4 hN hM es hc)
  rw [← em5] at es
  have er := qa_rv (qa_e rfl h)
  subst er
  have e0 : ma_101_3 N a1 σ = m5 := by exact Eq.trans (qa_ie em1) (Eq.trans (qa_ie em2) (Eq.trans (qa_ie em3) (Eq.trans (qa_ie em4) (Eq.trans (qa_ie em5) (rfl)))))
  rw [e0]
  exact ⟨rfl, hM, es⟩
