/-- BuriedBySevensModel, tellsMost, (I)I -/
noncomputable def ma_206_99 (N : Nat) (a1 : Int32) (σ : qa_S) : Int32 × qa_S :=
  qa_in (qa_u σ 99 9 (0 : Int32)) fun m1 =>
  if (ma_158 (a1).toInt64 (0 : Int64) (1 : Int64)) = (0 : Int32) then
    qa_in ((ma_152_99 (-2 : Int32) m1)) fun r3 =>
    (r3.1, r3.2)
  else
    qa_in ((ma_194_99 N m1)) fun m4 =>
    qa_in ((qa_wh (fun s => s) (mc_206_99_p35 N a1 m4) N ((0 : Int32), (-9 : Int32), (-9 : Int32)))) fun r5 =>
    ((if a1 = (0 : Int32) then r5.2.1 else r5.2.2), m4)
theorem mb_206_99 {f N : Nat} (hN : f ≤ N) {M : q4_M} {r : Option Value × q4_M} {σ : qa_S} {a1 : Int32} (hM : qa_O M) (es : qa_s M = σ) (h : q4_run f 206 0 (lv_args 0 [.ref 99, .int (a1)]) [] M 0 0 = some r) : r.1 = some (.int ((ma_206_99 N a1 σ).1)) ∧ qa_O r.2 ∧ qa_s r.2 = (ma_206_99 N a1 σ).2 := by
  obtain ⟨lv, el⟩ : ∃ l, l = lv_args 0 [.ref 99, .int (a1)] := ⟨_, rfl⟩
  have g0 : q4_get lv 0 = some (.ref 99) := by rw [el]; rfl
  have g1 : q4_get lv 1 = some (.int (a1)) := by rw [el]; rfl
  rw [← el] at h
  clear el
  replace h := qa_aload (n := 0) (q := 1) (qa_e rfl h) rfl g0
  replace h := qa_push (z := (0 : Int32)) (q := 2) (qa_e rfl h) rfl (by decide)
  obtain ⟨m1, em1⟩ : ∃ x, x = qa_u σ 99 9 (0 : Int32) := ⟨_, rfl⟩
  obtain ⟨M, h, hM, es⟩ := qa_pf (j := 9) (q := 5) (qa_e rfl h) rfl hM es rfl (by decide)
  rw [← em1] at es
  replace h := qa_iload (n := 1) (q := 6) (qa_e rfl h) rfl g1
  replace h := qa_i2l (q := 7) (qa_e rfl h) rfl
  replace h := qa_lpush (z := (0 : Int64)) (q := 8) (qa_e rfl h) rfl (by decide)
  replace h := qa_lpush (z := (1 : Int64)) (q := 9) (qa_e rfl h) rfl (by decide)
  obtain ⟨M, h, hM, es⟩ := qa_c1 (y := 158) (as := [.long ((a1).toInt64), .long ((0 : Int64)), .long ((1 : Int64))]) (rest := []) (i := .invokestatic 158) (q := 12) (qa_e rfl h) (Or.inr rfl) rfl rfl (by decide) rfl (fun r hc => mb_158 hM es hc)
  by_cases c2 : (ma_158 (a1).toInt64 (0 : Int64) (1 : Int64)) = (0 : Int32)
  · replace h := qa_icf (q := 15) (qa_e rfl h) rfl (qa_F_ne c2)
    replace h := qa_aload (n := 0) (q := 16) (qa_e rfl h) rfl g0
    replace h := qa_push (z := (-2 : Int32)) (q := 18) (qa_e rfl h) rfl (by decide)
    obtain ⟨r3, er3⟩ : ∃ x, x = (ma_152_99 (-2 : Int32) m1) := ⟨_, rfl⟩
    obtain ⟨M, h, hM, es⟩ := qa_c1 (y := 152) (as := [.ref 99, .int ((-2 : Int32))]) (rest := []) (i := .invokevirtual 152) (q := 21) (qa_e rfl h) (Or.inl rfl) rfl rfl (by decide) rfl (fun r hc => mb_152_99 hM es hc)
    rw [← er3] at h es
    have er := qa_ri (qa_e rfl h)
    subst er
    have e0 : ma_206_99 N a1 σ = (r3.1, r3.2) := by exact Eq.trans (qa_ie em1) (Eq.trans (if_pos c2) (Eq.trans (qa_ie er3) (rfl)))
    rw [e0]
    exact ⟨rfl, hM, es⟩
  · replace h := qa_ict (q := 22) (qa_e rfl h) rfl (qa_T_ne c2)
    replace h := qa_aload (n := 0) (q := 23) (qa_e rfl h) rfl g0
    obtain ⟨m4, em4⟩ : ∃ x, x = (ma_194_99 N m1) := ⟨_, rfl⟩
    obtain ⟨M, h, hM, es⟩ := qa_c0 (y := 194) (as := [.ref 99]) (rest := []) (i := .invokevirtual 194) (q := 26) (qa_e rfl h) (Or.inl rfl) rfl rfl (by decide) rfl (fun r hc => mb_194_99 hN hM es hc)
    rw [← em4] at es
    replace h := qa_push (z := (-9 : Int32)) (q := 28) (qa_e rfl h) rfl (by decide)
    obtain ⟨lv, h, g, T⟩ := qa_istore (n := 2) (q := 29) (qa_e rfl h) rfl
    replace g0 := T _ _ g0 (by decide) (Or.inr rfl)
    replace g1 := T _ _ g1 (by decide) (Or.inr rfl)
    have g2 := g
    clear g T
    replace h := qa_push (z := (-9 : Int32)) (q := 31) (qa_e rfl h) rfl (by decide)
    obtain ⟨lv, h, g, T⟩ := qa_istore (n := 3) (q := 32) (qa_e rfl h) rfl
    replace g0 := T _ _ g0 (by decide) (Or.inr rfl)
    replace g1 := T _ _ g1 (by decide) (Or.inr rfl)
    replace g2 := T _ _ g2 (by decide) (Or.inr rfl)
    have g3 := g
    clear g T
    replace h := qa_push (z := (0 : Int32)) (q := 33) (qa_e rfl h) rfl (by decide)
    obtain ⟨lv, h, g, T⟩ := qa_istore (n := 4) (q := 35) (qa_e rfl h) rfl
    replace g0 := T _ _ g0 (by decide) (Or.inr rfl)
    replace g1 := T _ _ g1 (by decide) (Or.inr rfl)
    replace g2 := T _ _ g2 (by decide) (Or.inr rfl)
    replace g3 := T _ _ g3 (by decide) (Or.inr rfl)
    have g4 := g
    clear g T
    obtain ⟨r5, er5⟩ : ∃ x, x = (qa_wh (fun s => s) (mc_206_99_p35 N a1 m4) N ((0 : Int32), (-9 : Int32), (-9 : Int32))) := ⟨_, rfl⟩
    have L := md_206_99_p35 (l1 := a1) (σ := m4) (F := f) (N := N) (r := r) hN f N hN (Nat.le_refl f) ((0 : Int32), (-9 : Int32), (-9 : Int32)) _ _ hM es g0 g1 g2 g3 g4 h
    rw [← er5] at L
    obtain ⟨lv, M, h, hM, es, g1, g2, g3⟩ := L
    replace h := qa_iload (n := 1) (q := 102) (qa_e rfl h) rfl g1
    obtain ⟨lv, M, h, hM, es⟩ : ∃ lv M, q4_run f 206 110 lv [.int ((if a1 = (0 : Int32) then r5.2.1 else r5.2.2))] M 0 0 = some r ∧ qa_O M ∧ qa_s M = m4 := by
      by_cases c6 : a1 = (0 : Int32)
      · replace h := qa_icf (q := 105) (qa_e rfl h) rfl (qa_F_ne c6)
        replace h := qa_iload (n := 2) (q := 106) (qa_e rfl h) rfl g2
        replace h := qa_goto (q := 110) (qa_e rfl h) rfl
        exact ⟨lv, M, (qa_hi1 c6 h), hM, es⟩
      · replace h := qa_ict (q := 109) (qa_e rfl h) rfl (qa_T_ne c6)
        replace h := qa_iload (n := 3) (q := 110) (qa_e rfl h) rfl g3
        exact ⟨lv, M, (qa_hi0 c6 h), hM, es⟩
    have er := qa_ri (qa_e rfl h)
    subst er
    have e0 : ma_206_99 N a1 σ = ((if a1 = (0 : Int32) then r5.2.1 else r5.2.2), m4) := by exact Eq.trans (qa_ie em1) (Eq.trans (if_neg c2) (Eq.trans (qa_ie em4) (Eq.trans (qa_ie er5) (rfl))))
    rw [e0]
    exact ⟨rfl, hM, es⟩
noncomputable def mc_208_p4 (N : Nat) (s : Int32 × Int32) : (Int32 × Int32) ⊕ (Int32 × Int32) :=
  if s.2 = (0 : Int32) then
    .inr (s.1, s.2)
  else
    .inl ((s.1 + (1 : Int32)), (s.2 &&& (s.2 - (1 : Int32))))
theorem md_208_p4 {N F : Nat} {r : Option Value × q4_M} {σ : qa_S} (hN : F ≤ N) : ∀ f n, f ≤ n → f ≤ F → ∀ (s : Int32 × Int32) (lv : List (Nat × Value)) (M : q4_M), qa_O M → qa_s M = σ → q4_get lv 1 = some (.int (s.1)) → q4_get lv 2 = some (.int (s.2)) → q4_run f 208 4 lv [] M 0 0 = some r → ∃ lv M, q4_run F 208 20 lv [] M 0 0 = some r ∧ qa_O M ∧ qa_s M = σ ∧ q4_get lv 1 = some (.int ((qa_wh (fun s => s) (mc_208_p4 N) n s).1)) := by
  intro f
  induction f with
  | zero => intro n _ _ s lv M hM es _ _ h; cases h
  | succ f ih =>
    intro n hn hF s lv M hM es g1 g2 h
    obtain ⟨n, rfl⟩ : ∃ n1, n = n1 + 1 := ⟨n - 1, by omega⟩
    replace hn : f ≤ n := Nat.le_of_succ_le_succ hn
    have hN := Nat.le_trans (Nat.le_of_succ_le hF) hN
    replace h := qa_iload (n := 2) (q := 5) (qa_d rfl h) rfl g2
    by_cases c1 : s.2 = (0 : Int32)
    · replace h := qa_ict (q := 20) (qa_e rfl h) rfl (qa_T_eq c1)
      have e0 : mc_208_p4 N s = .inr (s.1, s.2) := by exact Eq.trans (if_pos c1) (rfl)
      rw [qa_whr e0]
      exact ⟨_, _, q61_mono f F _ _ _ _ _ _ _ _ (Nat.le_of_succ_le hF) h, hM, es, g1⟩
    · replace h := qa_icf (q := 8) (qa_e rfl h) rfl (qa_F_eq c1)
      obtain ⟨lv, h, g, T⟩ := qa_iinc (n := 1) (z := (1 : Int32)) (q := 11) (qa_e rfl h) rfl (by decide) g1
      replace g2 := T _ _ g2 (by decide) (Or.inr rfl)
      replace g1 := g
      clear g T
      replace h := qa_iload (n := 2) (q := 12) (qa_e rfl h) rfl g2
      replace h := qa_iload (n := 2) (q := 13) (qa_e rfl h) rfl g2
      replace h := qa_push (z := (1 : Int32)) (q := 14) (qa_e rfl h) rfl (by decide)
      replace h := qa_isub (q := 15) (qa_e rfl h) rfl
      replace h := qa_iand (q := 16) (qa_e rfl h) rfl
      obtain ⟨lv, h, g, T⟩ := qa_istore (n := 2) (q := 17) (qa_e rfl h) rfl
      replace g1 := T _ _ g1 (by decide) (Or.inr rfl)
      have g2 := g
      clear g T
      replace h := qa_goto (q := 4) (qa_e rfl h) rfl
      have e0 : mc_208_p4 N s = .inl ((s.1 + (1 : Int32)), (s.2 &&& (s.2 - (1 : Int32)))) := by exact Eq.trans (if_neg c1) (rfl)
      rw [qa_whl e0]
      exact ih n hn (Nat.le_of_succ_le hF) ((s.1 + (1 : Int32)), (s.2 &&& (s.2 - (1 : Int32)))) _ _ hM es g1 g2 h
/-- BuriedBySevensModel, onesOf, (I)I -/
noncomputable def ma_208 (N : Nat) (a0 : Int32) : Int32 :=
  qa_in ((qa_wh (fun s => s) (mc_208_p4 N) N ((0 : Int32), a0))) fun r1 =>
  r1.1
theorem mb_208 {f N : Nat} (hN : f ≤ N) {M : q4_M} {r : Option Value × q4_M} {σ : qa_S} {a0 : Int32} (hM : qa_O M) (es : qa_s M = σ) (h : q4_run f 208 0 (lv_args 0 [.int (a0)]) [] M 0 0 = some r) : r.1 = some (.int ((ma_208 N a0))) ∧ qa_O r.2 ∧ qa_s r.2 = σ := by
  obtain ⟨lv, el⟩ : ∃ l, l = lv_args 0 [.int (a0)] := ⟨_, rfl⟩
  have g0 : q4_get lv 0 = some (.int (a0)) := by rw [el]; rfl
  rw [← el] at h
  clear el
  replace h := qa_push (z := (0 : Int32)) (q := 1) (qa_e rfl h) rfl (by decide)
  obtain ⟨lv, h, g, T⟩ := qa_istore (n := 1) (q := 2) (qa_e rfl h) rfl
  replace g0 := T _ _ g0 (by decide) (Or.inr rfl)
  have g1 := g
  clear g T
  replace h := qa_iload (n := 0) (q := 3) (qa_e rfl h) rfl g0
  obtain ⟨lv, h, g, T⟩ := qa_istore (n := 2) (q := 4) (qa_e rfl h) rfl
  replace g1 := T _ _ g1 (by decide) (Or.inr rfl)
  have g2 := g
  clear g T
  obtain ⟨r1, er1⟩ : ∃ x, x = (qa_wh (fun s => s) (mc_208_p4 N) N ((0 : Int32), a0)) := ⟨_, rfl⟩
  have L := md_208_p4 (σ := σ) (F := f) (N := N) (r := r) hN f N hN (Nat.le_refl f) ((0 : Int32), a0) _ _ hM es g1 g2 h
  rw [← er1] at L
  obtain ⟨lv, M, h, hM, es, g1⟩ := L
  replace h := qa_iload (n := 1) (q := 21) (qa_e rfl h) rfl g1
  have er := qa_ri (qa_e rfl h)
  subst er
  have e0 : ma_208 N a0 = r1.1 := by exact Eq.trans (qa_ie er1) (rfl)
  rw [e0]
  exact ⟨rfl, hM, es⟩
noncomputable def mc_207_99_p20 (N : Nat) (l1 : Int32) (σ : qa_S) (s : Int32 × Int32) : (Int32 × Int32) ⊕ (Int32 × Int32) :=
  if s.1 < (0 : Int32) then
    .inr (s.1, s.2)
  else
    qa_in ((ma_208 N s.1)) fun r2 =>
    qa_in ((ma_208 N s.2)) fun r3 =>
    qa_in ((ma_199_99 N s.1 σ)) fun r5 =>
    .inl ((s.1 + (-1 : Int32)), (if r3 < r2 then s.2 else (if r5 = l1 then s.1 else s.2)))
theorem md_207_99_p20 {N F : Nat} {r : Option Value × q4_M} {l1 : Int32} {σ : qa_S} (hN : F ≤ N) : ∀ f n, f ≤ n → f ≤ F → ∀ (s : Int32 × Int32) (lv : List (Nat × Value)) (M : q4_M), qa_O M → qa_s M = σ → q4_get lv 0 = some (.ref 99) → q4_get lv 1 = some (.int (l1)) → q4_get lv 2 = some (.int (s.2)) → q4_get lv 3 = some (.int (s.1)) → q4_run f 207 20 lv [] M 0 0 = some r → ∃ lv M, q4_run F 207 56 lv [] M 0 0 = some r ∧ qa_O M ∧ qa_s M = σ ∧ q4_get lv 2 = some (.int ((qa_wh (fun s => s) (mc_207_99_p20 N l1 σ) n s).2)) := by
  intro f
  induction f with
  | zero => intro n _ _ s lv M hM es _ _ _ _ h; cases h
  | succ f ih =>
    intro n hn hF s lv M hM es g0 g1 g2 g3 h
    obtain ⟨n, rfl⟩ : ∃ n1, n = n1 + 1 := ⟨n - 1, by omega⟩
    replace hn : f ≤ n := Nat.le_of_succ_le_succ hn
    have hN := Nat.le_trans (Nat.le_of_succ_le hF) hN
    replace h := qa_iload (n := 3) (q := 21) (qa_d rfl h) rfl g3
    by_cases c1 : s.1 < (0 : Int32)
    · replace h := qa_ict (q := 56) (qa_e rfl h) rfl (qa_T_lt c1)
      have e0 : mc_207_99_p20 N l1 σ s = .inr (s.1, s.2) := by exact Eq.trans (if_pos c1) (rfl)
      rw [qa_whr e0]
      exact ⟨_, _, q61_mono f F _ _ _ _ _ _ _ _ (Nat.le_of_succ_le hF) h, hM, es, g2⟩
    · replace h := qa_icf (q := 24) (qa_e rfl h) rfl (qa_F_lt c1)
      replace h := qa_iload (n := 3) (q := 25) (qa_e rfl h) rfl g3
      obtain ⟨r2, er2⟩ : ∃ x, x = (ma_208 N s.1) := ⟨_, rfl⟩
      obtain ⟨M, h, hM, es⟩ := qa_c1 (y := 208) (as := [.int (s.1)]) (rest := []) (i := .invokestatic 208) (q := 28) (qa_e rfl h) (Or.inr rfl) rfl rfl (by decide) rfl (fun r hc => mb_208 hN hM es hc)
      rw [← er2] at h
      replace h := qa_iload (n := 2) (q := 29) (qa_e rfl h) rfl g2
      obtain ⟨r3, er3⟩ : ∃ x, x = (ma_208 N s.2) := ⟨_, rfl⟩
      obtain ⟨M, h, hM, es⟩ := qa_c1 (y := 208) (as := [.int (s.2)]) (rest := [.int (r2)]) (i := .invokestatic 208) (q := 32) (qa_e rfl h) (Or.inr rfl) rfl rfl (by decide) rfl (fun r hc => mb_208 hN hM es hc)
      rw [← er3] at h
      obtain ⟨r5, er5⟩ : ∃ x, x = (ma_199_99 N s.1 σ) := ⟨_, rfl⟩
      obtain ⟨lv, M, h, hM, es, g0, g1, g2, g3⟩ : ∃ lv M, q4_run f 207 50 lv [] M 0 0 = some r ∧ qa_O M ∧ qa_s M = σ ∧ q4_get lv 0 = some (.ref 99) ∧ q4_get lv 1 = some (.int (l1)) ∧ q4_get lv 2 = some (.int ((if r3 < r2 then s.2 else (if r5 = l1 then s.1 else s.2)))) ∧ q4_get lv 3 = some (.int (s.1)) := by
        by_cases c4 : r3 < r2
        · replace h := qa_ift (q := 50) (qa_e rfl h) rfl (qa_T_gt c4)
          exact ⟨lv, M, h, hM, es, g0, g1, (qa_gi1 c4 g2), g3⟩
        · replace h := qa_iff (q := 35) (qa_e rfl h) rfl (qa_F_gt c4)
          replace h := qa_aload (n := 0) (q := 36) (qa_e rfl h) rfl g0
          replace h := qa_iload (n := 3) (q := 37) (qa_e rfl h) rfl g3
          obtain ⟨M, h, hM, es⟩ := qa_c1 (y := 199) (as := [.ref 99, .int (s.1)]) (rest := []) (i := .invokevirtual 199) (q := 40) (qa_e rfl h) (Or.inl rfl) rfl rfl (by decide) rfl (fun r hc => mb_199_99 hN hM es hc)
          rw [← er5] at h
          replace h := qa_iload (n := 1) (q := 41) (qa_e rfl h) rfl g1
          obtain ⟨lv, M, h, hM, es, g0, g1, g3⟩ : ∃ lv M, q4_run f 207 49 lv [.int ((if r5 = l1 then s.1 else s.2))] M 0 0 = some r ∧ qa_O M ∧ qa_s M = σ ∧ q4_get lv 0 = some (.ref 99) ∧ q4_get lv 1 = some (.int (l1)) ∧ q4_get lv 3 = some (.int (s.1)) := by
            by_cases c6 : r5 = l1
            · replace h := qa_iff (q := 44) (qa_e rfl h) rfl (qa_F_ne c6)
              replace h := qa_iload (n := 3) (q := 45) (qa_e rfl h) rfl g3
              replace h := qa_goto (q := 49) (qa_e rfl h) rfl
              exact ⟨lv, M, (qa_hi1 c6 h), hM, es, g0, g1, g3⟩
            · replace h := qa_ift (q := 48) (qa_e rfl h) rfl (qa_T_ne c6)
              replace h := qa_iload (n := 2) (q := 49) (qa_e rfl h) rfl g2
              exact ⟨lv, M, (qa_hi0 c6 h), hM, es, g0, g1, g3⟩
          obtain ⟨lv, h, g, T⟩ := qa_istore (n := 2) (q := 50) (qa_e rfl h) rfl
          replace g0 := T _ _ g0 (by decide) (Or.inr rfl)
          replace g1 := T _ _ g1 (by decide) (Or.inr rfl)
          replace g3 := T _ _ g3 (by decide) (Or.inr rfl)
          have g2 := g
          clear g T
          exact ⟨lv, M, h, hM, es, g0, g1, (qa_gi0 c4 g2), g3⟩
      obtain ⟨lv, h, g, T⟩ := qa_iinc (n := 3) (z := (-1 : Int32)) (q := 53) (qa_e rfl h) rfl (by decide) g3
      replace g0 := T _ _ g0 (by decide) (Or.inr rfl)
      replace g1 := T _ _ g1 (by decide) (Or.inr rfl)
      replace g2 := T _ _ g2 (by decide) (Or.inr rfl)
      replace g3 := g
      clear g T
      replace h := qa_goto (q := 20) (qa_e rfl h) rfl
      have e0 : mc_207_99_p20 N l1 σ s = .inl ((s.1 + (-1 : Int32)), (if r3 < r2 then s.2 else (if r5 = l1 then s.1 else s.2))) := by exact Eq.trans (if_neg c1) (Eq.trans (qa_ie er2) (Eq.trans (qa_ie er3) (Eq.trans (qa_ie er5) (rfl))))
      rw [qa_whl e0]
      exact ih n hn (Nat.le_of_succ_le hF) ((s.1 + (-1 : Int32)), (if r3 < r2 then s.2 else (if r5 = l1 then s.1 else s.2))) _ _ hM es g0 g1 g2 g3 h
/-- BuriedBySevensModel, drops, ()I -/
noncomputable def ma_207_99 (N : Nat) (σ : qa_S) : Int32 × qa_S :=
  qa_in (qa_u σ 99 9 (0 : Int32)) fun m1 =>
  qa_in ((ma_193_99 N m1)) fun r2 =>
  qa_in ((qa_wh (fun s => s) (mc_207_99_p20 N r2.1 r2.2) N ((ma_190_99 r2.2), (ma_190_99 r2.2)))) fun r3 =>
  (r3.2, r2.2)
theorem mb_207_99 {f N : Nat} (hN : f ≤ N) {M : q4_M} {r : Option Value × q4_M} {σ : qa_S} (hM : qa_O M) (es : qa_s M = σ) (h : q4_run f 207 0 (lv_args 0 [.ref 99]) [] M 0 0 = some r) : r.1 = some (.int ((ma_207_99 N σ).1)) ∧ qa_O r.2 ∧ qa_s r.2 = (ma_207_99 N σ).2 := by
  obtain ⟨lv, el⟩ : ∃ l, l = lv_args 0 [.ref 99] := ⟨_, rfl⟩
  have g0 : q4_get lv 0 = some (.ref 99) := by rw [el]; rfl
  rw [← el] at h
  clear el
  replace h := qa_aload (n := 0) (q := 1) (qa_e rfl h) rfl g0
  replace h := qa_push (z := (0 : Int32)) (q := 2) (qa_e rfl h) rfl (by decide)
  obtain ⟨m1, em1⟩ : ∃ x, x = qa_u σ 99 9 (0 : Int32) := ⟨_, rfl⟩
  obtain ⟨M, h, hM, es⟩ := qa_pf (j := 9) (q := 5) (qa_e rfl h) rfl hM es rfl (by decide)
  rw [← em1] at es
  replace h := qa_aload (n := 0) (q := 6) (qa_e rfl h) rfl g0
  obtain ⟨r2, er2⟩ : ∃ x, x = (ma_193_99 N m1) := ⟨_, rfl⟩
  obtain ⟨M, h, hM, es⟩ := qa_c1 (y := 193) (as := [.ref 99]) (rest := []) (i := .invokevirtual 193) (q := 9) (qa_e rfl h) (Or.inl rfl) rfl rfl (by decide) rfl (fun r hc => mb_193_99 hN hM es hc)
  rw [← er2] at h es
  obtain ⟨lv, h, g, T⟩ := qa_istore (n := 1) (q := 10) (qa_e rfl h) rfl
  replace g0 := T _ _ g0 (by decide) (Or.inr rfl)
  have g1 := g
  clear g T
  replace h := qa_aload (n := 0) (q := 11) (qa_e rfl h) rfl g0
  obtain ⟨M, h, hM, es⟩ := qa_c1 (y := 190) (as := [.ref 99]) (rest := []) (i := .invokevirtual 190) (q := 14) (qa_e rfl h) (Or.inl rfl) rfl rfl (by decide) rfl (fun r hc => mb_190_99 hM es hc)
  obtain ⟨lv, h, g, T⟩ := qa_istore (n := 2) (q := 15) (qa_e rfl h) rfl
  replace g0 := T _ _ g0 (by decide) (Or.inr rfl)
  replace g1 := T _ _ g1 (by decide) (Or.inr rfl)
  have g2 := g
  clear g T
  replace h := qa_aload (n := 0) (q := 16) (qa_e rfl h) rfl g0
  obtain ⟨M, h, hM, es⟩ := qa_c1 (y := 190) (as := [.ref 99]) (rest := []) (i := .invokevirtual 190) (q := 19) (qa_e rfl h) (Or.inl rfl) rfl rfl (by decide) rfl (fun r hc => mb_190_99 hM es hc)
  obtain ⟨lv, h, g, T⟩ := qa_istore (n := 3) (q := 20) (qa_e rfl h) rfl
  replace g0 := T _ _ g0 (by decide) (Or.inr rfl)
  replace g1 := T _ _ g1 (by decide) (Or.inr rfl)
  replace g2 := T _ _ g2 (by decide) (Or.inr rfl)
  have g3 := g
  clear g T
  obtain ⟨r3, er3⟩ : ∃ x, x = (qa_wh (fun s => s) (mc_207_99_p20 N r2.1 r2.2) N ((ma_190_99 r2.2), (ma_190_99 r2.2))) := ⟨_, rfl⟩
  have L := md_207_99_p20 (l1 := r2.1) (σ := r2.2) (F := f) (N := N) (r := r) hN f N hN (Nat.le_refl f) ((ma_190_99 r2.2), (ma_190_99 r2.2)) _ _ hM es g0 g1 g2 g3 h
  rw [← er3] at L
  obtain ⟨lv, M, h, hM, es, g2⟩ := L
  replace h := qa_iload (n := 2) (q := 57) (qa_e rfl h) rfl g2
  have er := qa_ri (qa_e rfl h)
  subst er
  have e0 : ma_207_99 N σ = (r3.2, r2.2) := by exact Eq.trans (qa_ie em1) (Eq.trans (qa_ie er2) (Eq.trans (qa_ie er3) (rfl)))
  rw [e0]
  exact ⟨rfl, hM, es⟩
/-- BuriedBySevensModel, claim, (II)I -/
noncomputable def ma_209_99 (N : Nat) (a1 : Int32) (a2 : Int32) (σ : qa_S) : Int32 × qa_S :=
  qa_in (qa_u σ 99 9 (0 : Int32)) fun m1 =>
  if (ma_171_99 a1 m1) = (0 : Int32) then
    qa_in ((ma_152_99 (-1 : Int32) m1)) fun r3 =>
    (r3.1, r3.2)
  else
    if (ma_163_99 a2 m1) = (0 : Int32) then
      qa_in ((ma_152_99 (-1 : Int32) m1)) fun r5 =>
      (r5.1, r5.2)
    else
      qa_in ((ma_194_99 N m1)) fun m6 =>
      qa_in ((ma_199_99 N ((1 : Int32) <<< (a1 &&& 31)) m6)) fun r7 =>
      qa_in ((ma_202_99 N ((1 : Int32) <<< (a1 &&& 31)) a2 m6)) fun r8 =>
      ((if r8.1 = (0 : Int32) then (2 : Int32) else (if r8.1 = r7 then (0 : Int32) else (1 : Int32))), r8.2)
theorem mb_209_99 {f N : Nat} (hN : f ≤ N) {M : q4_M} {r : Option Value × q4_M} {σ : qa_S} {a1 : Int32} {a2 : Int32} (hM : qa_O M) (es : qa_s M = σ) (h : q4_run f 209 0 (lv_args 0 [.ref 99, .int (a1), .int (a2)]) [] M 0 0 = some r) : r.1 = some (.int ((ma_209_99 N a1 a2 σ).1)) ∧ qa_O r.2 ∧ qa_s r.2 = (ma_209_99 N a1 a2 σ).2 := by
  obtain ⟨lv, el⟩ : ∃ l, l = lv_args 0 [.ref 99, .int (a1), .int (a2)] := ⟨_, rfl⟩
  have g0 : q4_get lv 0 = some (.ref 99) := by rw [el]; rfl
  have g1 : q4_get lv 1 = some (.int (a1)) := by rw [el]; rfl
  have g2 : q4_get lv 2 = some (.int (a2)) := by rw [el]; rfl
  rw [← el] at h
  clear el
  replace h := qa_aload (n := 0) (q := 1) (qa_e rfl h) rfl g0
  replace h := qa_push (z := (0 : Int32)) (q := 2) (qa_e rfl h) rfl (by decide)
  obtain ⟨m1, em1⟩ : ∃ x, x = qa_u σ 99 9 (0 : Int32) := ⟨_, rfl⟩
  obtain ⟨M, h, hM, es⟩ := qa_pf (j := 9) (q := 5) (qa_e rfl h) rfl hM es rfl (by decide)
  rw [← em1] at es
  replace h := qa_aload (n := 0) (q := 6) (qa_e rfl h) rfl g0
  replace h := qa_iload (n := 1) (q := 7) (qa_e rfl h) rfl g1
  obtain ⟨M, h, hM, es⟩ := qa_c1 (y := 171) (as := [.ref 99, .int (a1)]) (rest := []) (i := .invokevirtual 171) (q := 10) (qa_e rfl h) (Or.inl rfl) rfl rfl (by decide) rfl (fun r hc => mb_171_99 hM es hc)
  by_cases c2 : (ma_171_99 a1 m1) = (0 : Int32)
  · replace h := qa_ict (q := 21) (qa_e rfl h) rfl (qa_T_eq c2)
    replace h := qa_aload (n := 0) (q := 22) (qa_e rfl h) rfl g0
    replace h := qa_push (z := (-1 : Int32)) (q := 23) (qa_e rfl h) rfl (by decide)
    obtain ⟨r3, er3⟩ : ∃ x, x = (ma_152_99 (-1 : Int32) m1) := ⟨_, rfl⟩
    obtain ⟨M, h, hM, es⟩ := qa_c1 (y := 152) (as := [.ref 99, .int ((-1 : Int32))]) (rest := []) (i := .invokevirtual 152) (q := 26) (qa_e rfl h) (Or.inl rfl) rfl rfl (by decide) rfl (fun r hc => mb_152_99 hM es hc)
    rw [← er3] at h es
    have er := qa_ri (qa_e rfl h)
    subst er
    have e0 : ma_209_99 N a1 a2 σ = (r3.1, r3.2) := by exact Eq.trans (qa_ie em1) (Eq.trans (if_pos c2) (Eq.trans (qa_ie er3) (rfl)))
    rw [e0]
    exact ⟨rfl, hM, es⟩
  · replace h := qa_icf (q := 13) (qa_e rfl h) rfl (qa_F_eq c2)
    replace h := qa_aload (n := 0) (q := 14) (qa_e rfl h) rfl g0
    replace h := qa_iload (n := 2) (q := 15) (qa_e rfl h) rfl g2
    obtain ⟨M, h, hM, es⟩ := qa_c1 (y := 163) (as := [.ref 99, .int (a2)]) (rest := []) (i := .invokevirtual 163) (q := 18) (qa_e rfl h) (Or.inl rfl) rfl rfl (by decide) rfl (fun r hc => mb_163_99 hM es hc)
    by_cases c4 : (ma_163_99 a2 m1) = (0 : Int32)
    · replace h := qa_icf (q := 21) (qa_e rfl h) rfl (qa_F_ne c4)
      replace h := qa_aload (n := 0) (q := 22) (qa_e rfl h) rfl g0
      replace h := qa_push (z := (-1 : Int32)) (q := 23) (qa_e rfl h) rfl (by decide)
      obtain ⟨r5, er5⟩ : ∃ x, x = (ma_152_99 (-1 : Int32) m1) := ⟨_, rfl⟩
      obtain ⟨M, h, hM, es⟩ := qa_c1 (y := 152) (as := [.ref 99, .int ((-1 : Int32))]) (rest := []) (i := .invokevirtual 152) (q := 26) (qa_e rfl h) (Or.inl rfl) rfl rfl (by decide) rfl (fun r hc => mb_152_99 hM es hc)
      rw [← er5] at h es
      have er := qa_ri (qa_e rfl h)
      subst er
      have e0 : ma_209_99 N a1 a2 σ = (r5.1, r5.2) := by exact Eq.trans (qa_ie em1) (Eq.trans (if_neg c2) (Eq.trans (if_pos c4) (Eq.trans (qa_ie er5) (rfl))))
      rw [e0]
      exact ⟨rfl, hM, es⟩
    · replace h := qa_ict (q := 27) (qa_e rfl h) rfl (qa_T_ne c4)
      replace h := qa_aload (n := 0) (q := 28) (qa_e rfl h) rfl g0
      obtain ⟨m6, em6⟩ : ∃ x, x = (ma_194_99 N m1) := ⟨_, rfl⟩
      obtain ⟨M, h, hM, es⟩ := qa_c0 (y := 194) (as := [.ref 99]) (rest := []) (i := .invokevirtual 194) (q := 31) (qa_e rfl h) (Or.inl rfl) rfl rfl (by decide) rfl (fun r hc => mb_194_99 hN hM es hc)
      rw [← em6] at es
      replace h := qa_aload (n := 0) (q := 32) (qa_e rfl h) rfl g0
      replace h := qa_push (z := (1 : Int32)) (q := 33) (qa_e rfl h) rfl (by decide)
      replace h := qa_iload (n := 1) (q := 34) (qa_e rfl h) rfl g1
      replace h := qa_ishl (q := 35) (qa_e rfl h) rfl
      obtain ⟨r7, er7⟩ : ∃ x, x = (ma_199_99 N ((1 : Int32) <<< (a1 &&& 31)) m6) := ⟨_, rfl⟩
      obtain ⟨M, h, hM, es⟩ := qa_c1 (y := 199) (as := [.ref 99, .int (((1 : Int32) <<< (a1 &&& 31)))]) (rest := []) (i := .invokevirtual 199) (q := 38) (qa_e rfl h) (Or.inl rfl) rfl rfl (by decide) rfl (fun r hc => mb_199_99 hN hM es hc)
      rw [← er7] at h
      obtain ⟨lv, h, g, T⟩ := qa_istore (n := 3) (q := 39) (qa_e rfl h) rfl
      replace g0 := T _ _ g0 (by decide) (Or.inr rfl)
      replace g1 := T _ _ g1 (by decide) (Or.inr rfl)
      replace g2 := T _ _ g2 (by decide) (Or.inr rfl)
      have g3 := g
      clear g T
      replace h := qa_aload (n := 0) (q := 40) (qa_e rfl h) rfl g0
      replace h := qa_push (z := (1 : Int32)) (q := 41) (qa_e rfl h) rfl (by decide)
      replace h := qa_iload (n := 1) (q := 42) (qa_e rfl h) rfl g1
      replace h := qa_ishl (q := 43) (qa_e rfl h) rfl
      replace h := qa_iload (n := 2) (q := 44) (qa_e rfl h) rfl g2
      obtain ⟨r8, er8⟩ : ∃ x, x = (ma_202_99 N ((1 : Int32) <<< (a1 &&& 31)) a2 m6) := ⟨_, rfl⟩
      obtain ⟨M, h, hM, es⟩ := qa_c1 (y := 202) (as := [.ref 99, .int (((1 : Int32) <<< (a1 &&& 31))), .int (a2)]) (rest := []) (i := .invokevirtual 202) (q := 47) (qa_e rfl h) (Or.inl rfl) rfl rfl (by decide) rfl (fun r hc => mb_202_99 hN hM es hc)
      rw [← er8] at h es
      obtain ⟨lv, h, g, T⟩ := qa_istore (n := 4) (q := 49) (qa_e rfl h) rfl
      replace g3 := T _ _ g3 (by decide) (Or.inr rfl)
      have g4 := g
      clear g T
      replace h := qa_iload (n := 4) (q := 51) (qa_e rfl h) rfl g4
      obtain ⟨lv, M, h, hM, es⟩ : ∃ lv M, q4_run f 209 69 lv [.int ((if r8.1 = (0 : Int32) then (2 : Int32) else (if r8.1 = r7 then (0 : Int32) else (1 : Int32))))] M 0 0 = some r ∧ qa_O M ∧ qa_s M = r8.2 := by
        by_cases c9 : r8.1 = (0 : Int32)
        · replace h := qa_icf (q := 54) (qa_e rfl h) rfl (qa_F_ne c9)
          replace h := qa_push (z := (2 : Int32)) (q := 55) (qa_e rfl h) rfl (by decide)
          replace h := qa_goto (q := 69) (qa_e rfl h) rfl
          exact ⟨lv, M, (qa_hi1 c9 h), hM, es⟩
        · replace h := qa_ict (q := 58) (qa_e rfl h) rfl (qa_T_ne c9)
          replace h := qa_iload (n := 4) (q := 60) (qa_e rfl h) rfl g4
          replace h := qa_iload (n := 3) (q := 61) (qa_e rfl h) rfl g3
          obtain ⟨lv, M, h, hM, es⟩ : ∃ lv M, q4_run f 209 69 lv [.int ((if r8.1 = r7 then (0 : Int32) else (1 : Int32)))] M 0 0 = some r ∧ qa_O M ∧ qa_s M = r8.2 := by
            by_cases c10 : r8.1 = r7
            · replace h := qa_iff (q := 64) (qa_e rfl h) rfl (qa_F_ne c10)
              replace h := qa_push (z := (0 : Int32)) (q := 65) (qa_e rfl h) rfl (by decide)
              replace h := qa_goto (q := 69) (qa_e rfl h) rfl
              exact ⟨lv, M, (qa_hi1 c10 h), hM, es⟩
            · replace h := qa_ift (q := 68) (qa_e rfl h) rfl (qa_T_ne c10)
              replace h := qa_push (z := (1 : Int32)) (q := 69) (qa_e rfl h) rfl (by decide)
              exact ⟨lv, M, (qa_hi0 c10 h), hM, es⟩
          exact ⟨lv, M, (qa_hi0 c9 h), hM, es⟩
      have er := qa_ri (qa_e rfl h)
      subst er
      have e0 : ma_209_99 N a1 a2 σ = ((if r8.1 = (0 : Int32) then (2 : Int32) else (if r8.1 = r7 then (0 : Int32) else (1 : Int32))), r8.2) := by exact Eq.trans (qa_ie em1) (Eq.trans (if_neg c2) (Eq.trans (if_neg c4) (Eq.trans (qa_ie em6) (Eq.trans (qa_ie er7) (Eq.trans (qa_ie er8) (rfl))))))
      rw [e0]
      exact ⟨rfl, hM, es⟩
noncomputable def mc_211_99_p17 (N : Nat) (l1 : Int32) (l3 : Int32) (σ : qa_S) (s : Int32 × Int32) : (Int32 × Int32) ⊕ (Int32 × Int32) :=
  if s.1 < (σ 99 0) then
    qa_in ((ma_191_99 N l1 l3 s.1 σ)) fun r3 =>
    qa_in ((ma_191_99 N (ma_190_99 σ) l3 s.1 σ)) fun r4 =>
    .inl ((s.1 + (1 : Int32)), (if s.2 = (0 : Int32) then (0 : Int32) else (if r3 = r4 then (1 : Int32) else (0 : Int32))))
  else
    .inr (s.1, s.2)
theorem md_211_99_p17 {N F : Nat} {r : Option Value × q4_M} {l1 : Int32} {l3 : Int32} {σ : qa_S} (hN : F ≤ N) : ∀ f n, f ≤ n → f ≤ F → ∀ (s : Int32 × Int32) (lv : List (Nat × Value)) (M : q4_M), qa_O M → qa_s M = σ → q4_get lv 0 = some (.ref 99) → q4_get lv 1 = some (.int (l1)) → q4_get lv 2 = some (.int (s.2)) → q4_get lv 3 = some (.int (l3)) → q4_get lv 4 = some (.int (s.1)) → q4_run f 211 17 lv [] M 0 0 = some r → ∃ lv M, q4_run F 211 64 lv [] M 0 0 = some r ∧ qa_O M ∧ qa_s M = σ ∧ q4_get lv 0 = some (.ref 99) ∧ q4_get lv 1 = some (.int (l1)) ∧ q4_get lv 2 = some (.int ((qa_wh (fun s => s) (mc_211_99_p17 N l1 l3 σ) n s).2)) ∧ q4_get lv 3 = some (.int (l3)) := by
  intro f
  induction f with
  | zero => intro n _ _ s lv M hM es _ _ _ _ _ h; cases h
  | succ f ih =>
    intro n hn hF s lv M hM es g0 g1 g2 g3 g4 h
    obtain ⟨n, rfl⟩ : ∃ n1, n = n1 + 1 := ⟨n - 1, by omega⟩
    replace hn : f ≤ n := Nat.le_of_succ_le_succ hn
    have hN := Nat.le_trans (Nat.le_of_succ_le hF) hN
    replace h := qa_iload (n := 4) (q := 19) (qa_d rfl h) rfl g4
    replace h := qa_aload (n := 0) (q := 20) (qa_e rfl h) rfl g0
    replace h := qa_gi (j := 0) (q := 23) (qa_e rfl h) rfl hM es rfl (by decide)
    by_cases c1 : s.1 < (σ 99 0)
    · replace h := qa_iff (q := 26) (qa_e rfl h) rfl (qa_F_ge c1)
      replace h := qa_iload (n := 2) (q := 27) (qa_e rfl h) rfl g2
      obtain ⟨r3, er3⟩ : ∃ x, x = (ma_191_99 N l1 l3 s.1 σ) := ⟨_, rfl⟩
      obtain ⟨r4, er4⟩ : ∃ x, x = (ma_191_99 N (ma_190_99 σ) l3 s.1 σ) := ⟨_, rfl⟩
      obtain ⟨lv, M, h, hM, es, g0, g1, g3, g4⟩ : ∃ lv M, q4_run f 211 57 lv [.int ((if s.2 = (0 : Int32) then (0 : Int32) else (if r3 = r4 then (1 : Int32) else (0 : Int32))))] M 0 0 = some r ∧ qa_O M ∧ qa_s M = σ ∧ q4_get lv 0 = some (.ref 99) ∧ q4_get lv 1 = some (.int (l1)) ∧ q4_get lv 3 = some (.int (l3)) ∧ q4_get lv 4 = some (.int (s.1)) := by
        by_cases c2 : s.2 = (0 : Int32)
        · replace h := qa_ict (q := 56) (qa_e rfl h) rfl (qa_T_eq c2)
          replace h := qa_push (z := (0 : Int32)) (q := 57) (qa_e rfl h) rfl (by decide)
          exact ⟨lv, M, (qa_hi1 c2 h), hM, es, g0, g1, g3, g4⟩
        · replace h := qa_icf (q := 30) (qa_e rfl h) rfl (qa_F_eq c2)
          replace h := qa_aload (n := 0) (q := 31) (qa_e rfl h) rfl g0
          replace h := qa_iload (n := 1) (q := 32) (qa_e rfl h) rfl g1
          replace h := qa_iload (n := 3) (q := 33) (qa_e rfl h) rfl g3
          replace h := qa_iload (n := 4) (q := 35) (qa_e rfl h) rfl g4
          obtain ⟨M, h, hM, es⟩ := qa_c1 (y := 191) (as := [.ref 99, .int (l1), .int (l3), .int (s.1)]) (rest := []) (i := .invokevirtual 191) (q := 38) (qa_e rfl h) (Or.inl rfl) rfl rfl (by decide) rfl (fun r hc => mb_191_99 hN hM es hc)
          rw [← er3] at h
          replace h := qa_aload (n := 0) (q := 39) (qa_e rfl h) rfl g0
          replace h := qa_aload (n := 0) (q := 40) (qa_e rfl h) rfl g0
          obtain ⟨M, h, hM, es⟩ := qa_c1 (y := 190) (as := [.ref 99]) (rest := [.ref 99, .int (r3)]) (i := .invokevirtual 190) (q := 43) (qa_e rfl h) (Or.inl rfl) rfl rfl (by decide) rfl (fun r hc => mb_190_99 hM es hc)
          replace h := qa_iload (n := 3) (q := 44) (qa_e rfl h) rfl g3
          replace h := qa_iload (n := 4) (q := 46) (qa_e rfl h) rfl g4
          obtain ⟨M, h, hM, es⟩ := qa_c1 (y := 191) (as := [.ref 99, .int ((ma_190_99 σ)), .int (l3), .int (s.1)]) (rest := [.int (r3)]) (i := .invokevirtual 191) (q := 49) (qa_e rfl h) (Or.inl rfl) rfl rfl (by decide) rfl (fun r hc => mb_191_99 hN hM es hc)
          rw [← er4] at h
          obtain ⟨lv, M, h, hM, es, g0, g1, g3, g4⟩ : ∃ lv M, q4_run f 211 57 lv [.int ((if r3 = r4 then (1 : Int32) else (0 : Int32)))] M 0 0 = some r ∧ qa_O M ∧ qa_s M = σ ∧ q4_get lv 0 = some (.ref 99) ∧ q4_get lv 1 = some (.int (l1)) ∧ q4_get lv 3 = some (.int (l3)) ∧ q4_get lv 4 = some (.int (s.1)) := by
            by_cases c5 : r3 = r4
            · replace h := qa_iff (q := 52) (qa_e rfl h) rfl (qa_F_ne c5)
              replace h := qa_push (z := (1 : Int32)) (q := 53) (qa_e rfl h) rfl (by decide)
              replace h := qa_goto (q := 57) (qa_e rfl h) rfl
              exact ⟨lv, M, (qa_hi1 c5 h), hM, es, g0, g1, g3, g4⟩
            · replace h := qa_ift (q := 56) (qa_e rfl h) rfl (qa_T_ne c5)
              replace h := qa_push (z := (0 : Int32)) (q := 57) (qa_e rfl h) rfl (by decide)
              exact ⟨lv, M, (qa_hi0 c5 h), hM, es, g0, g1, g3, g4⟩
          exact ⟨lv, M, (qa_hi0 c2 h), hM, es, g0, g1, g3, g4⟩
      obtain ⟨lv, h, g, T⟩ := qa_istore (n := 2) (q := 58) (qa_e rfl h) rfl
      replace g0 := T _ _ g0 (by decide) (Or.inr rfl)
      replace g1 := T _ _ g1 (by decide) (Or.inr rfl)
      replace g3 := T _ _ g3 (by decide) (Or.inr rfl)
      replace g4 := T _ _ g4 (by decide) (Or.inr rfl)
      have g2 := g
      clear g T
      obtain ⟨lv, h, g, T⟩ := qa_iinc (n := 4) (z := (1 : Int32)) (q := 61) (qa_e rfl h) rfl (by decide) g4
      replace g0 := T _ _ g0 (by decide) (Or.inr rfl)
      replace g1 := T _ _ g1 (by decide) (Or.inr rfl)
      replace g2 := T _ _ g2 (by decide) (Or.inr rfl)
      replace g3 := T _ _ g3 (by decide) (Or.inr rfl)
      replace g4 := g
      clear g T
      replace h := qa_goto (q := 17) (qa_e rfl h) rfl
      have e0 : mc_211_99_p17 N l1 l3 σ s = .inl ((s.1 + (1 : Int32)), (if s.2 = (0 : Int32) then (0 : Int32) else (if r3 = r4 then (1 : Int32) else (0 : Int32)))) := by exact Eq.trans (if_pos c1) (Eq.trans (qa_ie er3) (Eq.trans (qa_ie er4) (rfl)))
      rw [qa_whl e0]
      exact ih n hn (Nat.le_of_succ_le hF) ((s.1 + (1 : Int32)), (if s.2 = (0 : Int32) then (0 : Int32) else (if r3 = r4 then (1 : Int32) else (0 : Int32)))) _ _ hM es g0 g1 g2 g3 g4 h
    · replace h := qa_ift (q := 64) (qa_e rfl h) rfl (qa_T_ge c1)
      have e0 : mc_211_99_p17 N l1 l3 σ s = .inr (s.1, s.2) := by exact Eq.trans (if_neg c1) (rfl)
      rw [qa_whr e0]
      exact ⟨_, _, q61_mono f F _ _ _ _ _ _ _ _ (Nat.le_of_succ_le hF) h, hM, es, g0, g1, g2, g3⟩
noncomputable def mc_211_99_p4 (N : Nat) (l1 : Int32) (σ : qa_S) (s : Int32 × Int32) : (Int32 × Int32) ⊕ (Int32 × Int32) :=
  if s.1 < (σ 99 0) then
    qa_in ((qa_wh (fun s => s) (mc_211_99_p17 N l1 s.1 σ) N ((s.1 + (1 : Int32)), s.2))) fun r2 =>
    .inl ((s.1 + (1 : Int32)), r2.2)
  else
    .inr (s.1, s.2)
theorem md_211_99_p4 {N F : Nat} {r : Option Value × q4_M} {l1 : Int32} {σ : qa_S} (hN : F ≤ N) : ∀ f n, f ≤ n → f ≤ F → ∀ (s : Int32 × Int32) (lv : List (Nat × Value)) (M : q4_M), qa_O M → qa_s M = σ → q4_get lv 0 = some (.ref 99) → q4_get lv 1 = some (.int (l1)) → q4_get lv 2 = some (.int (s.2)) → q4_get lv 3 = some (.int (s.1)) → q4_run f 211 4 lv [] M 0 0 = some r → ∃ lv M, q4_run F 211 70 lv [] M 0 0 = some r ∧ qa_O M ∧ qa_s M = σ ∧ q4_get lv 2 = some (.int ((qa_wh (fun s => s) (mc_211_99_p4 N l1 σ) n s).2)) := by
  intro f
  induction f with
  | zero => intro n _ _ s lv M hM es _ _ _ _ h; cases h
  | succ f ih =>
    intro n hn hF s lv M hM es g0 g1 g2 g3 h
    obtain ⟨n, rfl⟩ : ∃ n1, n = n1 + 1 := ⟨n - 1, by omega⟩
    replace hn : f ≤ n := Nat.le_of_succ_le_succ hn
    have hN := Nat.le_trans (Nat.le_of_succ_le hF) hN
    replace h := qa_iload (n := 3) (q := 5) (qa_d rfl h) rfl g3
    replace h := qa_aload (n := 0) (q := 6) (qa_e rfl h) rfl g0
    replace h := qa_gi (j := 0) (q := 9) (qa_e rfl h) rfl hM es rfl (by decide)
    by_cases c1 : s.1 < (σ 99 0)
    · replace h := qa_iff (q := 12) (qa_e rfl h) rfl (qa_F_ge c1)
      replace h := qa_iload (n := 3) (q := 13) (qa_e rfl h) rfl g3
      replace h := qa_push (z := (1 : Int32)) (q := 14) (qa_e rfl h) rfl (by decide)
      replace h := qa_iadd (q := 15) (qa_e rfl h) rfl
      obtain ⟨lv, h, g, T⟩ := qa_istore (n := 4) (q := 17) (qa_e rfl h) rfl
      replace g0 := T _ _ g0 (by decide) (Or.inr rfl)
      replace g1 := T _ _ g1 (by decide) (Or.inr rfl)
      replace g2 := T _ _ g2 (by decide) (Or.inr rfl)
      replace g3 := T _ _ g3 (by decide) (Or.inr rfl)
      have g4 := g
      clear g T
      obtain ⟨r2, er2⟩ : ∃ x, x = (qa_wh (fun s => s) (mc_211_99_p17 N l1 s.1 σ) N ((s.1 + (1 : Int32)), s.2)) := ⟨_, rfl⟩
      have L := md_211_99_p17 (l1 := l1) (l3 := s.1) (σ := σ) (F := f) (N := N) (r := r) hN f N hN (Nat.le_refl f) ((s.1 + (1 : Int32)), s.2) _ _ hM es g0 g1 g2 g3 g4 h
      rw [← er2] at L
      obtain ⟨lv, M, h, hM, es, g0, g1, g2, g3⟩ := L
      obtain ⟨lv, h, g, T⟩ := qa_iinc (n := 3) (z := (1 : Int32)) (q := 67) (qa_e rfl h) rfl (by decide) g3
      replace g0 := T _ _ g0 (by decide) (Or.inr rfl)
      replace g1 := T _ _ g1 (by decide) (Or.inr rfl)
      replace g2 := T _ _ g2 (by decide) (Or.inr rfl)
      replace g3 := g
      clear g T
      replace h := qa_goto (q := 4) (qa_e rfl h) rfl
      have e0 : mc_211_99_p4 N l1 σ s = .inl ((s.1 + (1 : Int32)), r2.2) := by exact Eq.trans (if_pos c1) (Eq.trans (qa_ie er2) (rfl))
      rw [qa_whl e0]
      exact ih n hn (Nat.le_of_succ_le hF) ((s.1 + (1 : Int32)), r2.2) _ _ hM es g0 g1 g2 g3 h
    · replace h := qa_ift (q := 70) (qa_e rfl h) rfl (qa_T_ge c1)
      have e0 : mc_211_99_p4 N l1 σ s = .inr (s.1, s.2) := by exact Eq.trans (if_neg c1) (rfl)
      rw [qa_whr e0]
      exact ⟨_, _, q61_mono f F _ _ _ _ _ _ _ _ (Nat.le_of_succ_le hF) h, hM, es, g2⟩
/-- BuriedBySevensModel, isEnough, (I)Z -/
noncomputable def ma_211_99 (N : Nat) (a1 : Int32) (σ : qa_S) : Int32 :=
  qa_in ((qa_wh (fun s => s) (mc_211_99_p4 N a1 σ) N ((0 : Int32), (1 : Int32)))) fun r1 =>
  r1.2
theorem mb_211_99 {f N : Nat} (hN : f ≤ N) {M : q4_M} {r : Option Value × q4_M} {σ : qa_S} {a1 : Int32} (hM : qa_O M) (es : qa_s M = σ) (h : q4_run f 211 0 (lv_args 0 [.ref 99, .int (a1)]) [] M 0 0 = some r) : r.1 = some (.int ((ma_211_99 N a1 σ))) ∧ qa_O r.2 ∧ qa_s r.2 = σ := by
  obtain ⟨lv, el⟩ : ∃ l, l = lv_args 0 [.ref 99, .int (a1)] := ⟨_, rfl⟩
  have g0 : q4_get lv 0 = some (.ref 99) := by rw [el]; rfl
  have g1 : q4_get lv 1 = some (.int (a1)) := by rw [el]; rfl
  rw [← el] at h
  clear el
  replace h := qa_push (z := (1 : Int32)) (q := 1) (qa_e rfl h) rfl (by decide)
  obtain ⟨lv, h, g, T⟩ := qa_istore (n := 2) (q := 2) (qa_e rfl h) rfl
  replace g0 := T _ _ g0 (by decide) (Or.inr rfl)
  replace g1 := T _ _ g1 (by decide) (Or.inr rfl)
  have g2 := g
  clear g T
  replace h := qa_push (z := (0 : Int32)) (q := 3) (qa_e rfl h) rfl (by decide)
  obtain ⟨lv, h, g, T⟩ := qa_istore (n := 3) (q := 4) (qa_e rfl h) rfl
  replace g0 := T _ _ g0 (by decide) (Or.inr rfl)
  replace g1 := T _ _ g1 (by decide) (Or.inr rfl)
  replace g2 := T _ _ g2 (by decide) (Or.inr rfl)
  have g3 := g
  clear g T
  obtain ⟨r1, er1⟩ : ∃ x, x = (qa_wh (fun s => s) (mc_211_99_p4 N a1 σ) N ((0 : Int32), (1 : Int32))) := ⟨_, rfl⟩
  have L := md_211_99_p4 (l1 := a1) (σ := σ) (F := f) (N := N) (r := r) hN f N hN (Nat.le_refl f) ((0 : Int32), (1 : Int32)) _ _ hM es g0 g1 g2 g3 h
  rw [← er1] at L
  obtain ⟨lv, M, h, hM, es, g2⟩ := L
  replace h := qa_iload (n := 2) (q := 71) (qa_e rfl h) rfl g2
  have er := qa_ri (qa_e rfl h)
  subst er
  have e0 : ma_211_99 N a1 σ = r1.2 := by exact Eq.trans (qa_ie er1) (rfl)
  rw [e0]
  exact ⟨rfl, hM, es⟩
noncomputable def mc_210_99_p19 (N : Nat) (σ : qa_S) (s : Int32 × Int32) : (Int32 × Int32) ⊕ (Int32 × Int32) :=
  if s.1 < (0 : Int32) then
    .inr (s.1, s.2)
  else
    qa_in ((ma_208 N s.1)) fun r2 =>
    qa_in ((ma_208 N s.2)) fun r3 =>
    qa_in ((ma_211_99 N s.1 σ)) fun r5 =>
    .inl ((s.1 + (-1 : Int32)), (if r3 < r2 then s.2 else (if r5 = (0 : Int32) then s.2 else s.1)))
theorem md_210_99_p19 {N F : Nat} {r : Option Value × q4_M} {σ : qa_S} (hN : F ≤ N) : ∀ f n, f ≤ n → f ≤ F → ∀ (s : Int32 × Int32) (lv : List (Nat × Value)) (M : q4_M), qa_O M → qa_s M = σ → q4_get lv 0 = some (.ref 99) → q4_get lv 1 = some (.int (s.2)) → q4_get lv 2 = some (.int (s.1)) → q4_run f 210 19 lv [] M 0 0 = some r → ∃ lv M, q4_run F 210 54 lv [] M 0 0 = some r ∧ qa_O M ∧ qa_s M = σ ∧ q4_get lv 1 = some (.int ((qa_wh (fun s => s) (mc_210_99_p19 N σ) n s).2)) := by
  intro f
  induction f with
  | zero => intro n _ _ s lv M hM es _ _ _ h; cases h
  | succ f ih =>
    intro n hn hF s lv M hM es g0 g1 g2 h
    obtain ⟨n, rfl⟩ : ∃ n1, n = n1 + 1 := ⟨n - 1, by omega⟩
    replace hn : f ≤ n := Nat.le_of_succ_le_succ hn
    have hN := Nat.le_trans (Nat.le_of_succ_le hF) hN
    replace h := qa_iload (n := 2) (q := 20) (qa_d rfl h) rfl g2
    by_cases c1 : s.1 < (0 : Int32)
    · replace h := qa_ict (q := 54) (qa_e rfl h) rfl (qa_T_lt c1)
      have e0 : mc_210_99_p19 N σ s = .inr (s.1, s.2) := by exact Eq.trans (if_pos c1) (rfl)
      rw [qa_whr e0]
      exact ⟨_, _, q61_mono f F _ _ _ _ _ _ _ _ (Nat.le_of_succ_le hF) h, hM, es, g1⟩
    · replace h := qa_icf (q := 23) (qa_e rfl h) rfl (qa_F_lt c1)
      replace h := qa_iload (n := 2) (q := 24) (qa_e rfl h) rfl g2
      obtain ⟨r2, er2⟩ : ∃ x, x = (ma_208 N s.1) := ⟨_, rfl⟩
      obtain ⟨M, h, hM, es⟩ := qa_c1 (y := 208) (as := [.int (s.1)]) (rest := []) (i := .invokestatic 208) (q := 27) (qa_e rfl h) (Or.inr rfl) rfl rfl (by decide) rfl (fun r hc => mb_208 hN hM es hc)
      rw [← er2] at h
      replace h := qa_iload (n := 1) (q := 28) (qa_e rfl h) rfl g1
      obtain ⟨r3, er3⟩ : ∃ x, x = (ma_208 N s.2) := ⟨_, rfl⟩
      obtain ⟨M, h, hM, es⟩ := qa_c1 (y := 208) (as := [.int (s.2)]) (rest := [.int (r2)]) (i := .invokestatic 208) (q := 31) (qa_e rfl h) (Or.inr rfl) rfl rfl (by decide) rfl (fun r hc => mb_208 hN hM es hc)
      rw [← er3] at h
      obtain ⟨r5, er5⟩ : ∃ x, x = (ma_211_99 N s.1 σ) := ⟨_, rfl⟩
      obtain ⟨lv, M, h, hM, es, g0, g1, g2⟩ : ∃ lv M, q4_run f 210 48 lv [] M 0 0 = some r ∧ qa_O M ∧ qa_s M = σ ∧ q4_get lv 0 = some (.ref 99) ∧ q4_get lv 1 = some (.int ((if r3 < r2 then s.2 else (if r5 = (0 : Int32) then s.2 else s.1)))) ∧ q4_get lv 2 = some (.int (s.1)) := by
        by_cases c4 : r3 < r2
        · replace h := qa_ift (q := 48) (qa_e rfl h) rfl (qa_T_gt c4)
          exact ⟨lv, M, h, hM, es, g0, (qa_gi1 c4 g1), g2⟩
        · replace h := qa_iff (q := 34) (qa_e rfl h) rfl (qa_F_gt c4)
          replace h := qa_aload (n := 0) (q := 35) (qa_e rfl h) rfl g0
          replace h := qa_iload (n := 2) (q := 36) (qa_e rfl h) rfl g2
          obtain ⟨M, h, hM, es⟩ := qa_c1 (y := 211) (as := [.ref 99, .int (s.1)]) (rest := []) (i := .invokevirtual 211) (q := 39) (qa_e rfl h) (Or.inl rfl) rfl rfl (by decide) rfl (fun r hc => mb_211_99 hN hM es hc)
          rw [← er5] at h
          obtain ⟨lv, M, h, hM, es, g0, g2⟩ : ∃ lv M, q4_run f 210 47 lv [.int ((if r5 = (0 : Int32) then s.2 else s.1))] M 0 0 = some r ∧ qa_O M ∧ qa_s M = σ ∧ q4_get lv 0 = some (.ref 99) ∧ q4_get lv 2 = some (.int (s.1)) := by
            by_cases c6 : r5 = (0 : Int32)
            · replace h := qa_ict (q := 46) (qa_e rfl h) rfl (qa_T_eq c6)
              replace h := qa_iload (n := 1) (q := 47) (qa_e rfl h) rfl g1
              exact ⟨lv, M, (qa_hi1 c6 h), hM, es, g0, g2⟩
            · replace h := qa_icf (q := 42) (qa_e rfl h) rfl (qa_F_eq c6)
              replace h := qa_iload (n := 2) (q := 43) (qa_e rfl h) rfl g2
              replace h := qa_goto (q := 47) (qa_e rfl h) rfl
              exact ⟨lv, M, (qa_hi0 c6 h), hM, es, g0, g2⟩
          obtain ⟨lv, h, g, T⟩ := qa_istore (n := 1) (q := 48) (qa_e rfl h) rfl
          replace g0 := T _ _ g0 (by decide) (Or.inr rfl)
          replace g2 := T _ _ g2 (by decide) (Or.inr rfl)
          have g1 := g
          clear g T
          exact ⟨lv, M, h, hM, es, g0, (qa_gi0 c4 g1), g2⟩
      obtain ⟨lv, h, g, T⟩ := qa_iinc (n := 2) (z := (-1 : Int32)) (q := 51) (qa_e rfl h) rfl (by decide) g2
      replace g0 := T _ _ g0 (by decide) (Or.inr rfl)
      replace g1 := T _ _ g1 (by decide) (Or.inr rfl)
      replace g2 := g
      clear g T
      replace h := qa_goto (q := 19) (qa_e rfl h) rfl
      have e0 : mc_210_99_p19 N σ s = .inl ((s.1 + (-1 : Int32)), (if r3 < r2 then s.2 else (if r5 = (0 : Int32) then s.2 else s.1))) := by exact Eq.trans (if_neg c1) (Eq.trans (qa_ie er2) (Eq.trans (qa_ie er3) (Eq.trans (qa_ie er5) (rfl))))
      rw [qa_whl e0]
      exact ih n hn (Nat.le_of_succ_le hF) ((s.1 + (-1 : Int32)), (if r3 < r2 then s.2 else (if r5 = (0 : Int32) then s.2 else s.1))) _ _ hM es g0 g1 g2 h
/-- BuriedBySevensModel, team, ()I -/
noncomputable def ma_210_99 (N : Nat) (σ : qa_S) : Int32 × qa_S :=
  qa_in (qa_u σ 99 9 (0 : Int32)) fun m1 =>
  qa_in ((ma_181_99 N m1)) fun m2 =>
  qa_in ((qa_wh (fun s => s) (mc_210_99_p19 N m2) N ((ma_190_99 m2), (ma_190_99 m2)))) fun r3 =>
  (r3.2, m2)
theorem mb_210_99 {f N : Nat} (hN : f ≤ N) {M : q4_M} {r : Option Value × q4_M} {σ : qa_S} (hM : qa_O M) (es : qa_s M = σ) (h : q4_run f 210 0 (lv_args 0 [.ref 99]) [] M 0 0 = some r) : r.1 = some (.int ((ma_210_99 N σ).1)) ∧ qa_O r.2 ∧ qa_s r.2 = (ma_210_99 N σ).2 := by
  obtain ⟨lv, el⟩ : ∃ l, l = lv_args 0 [.ref 99] := ⟨_, rfl⟩
  have g0 : q4_get lv 0 = some (.ref 99) := by rw [el]; rfl
  rw [← el] at h
  clear el
  replace h := qa_aload (n := 0) (q := 1) (qa_e rfl h) rfl g0
  replace h := qa_push (z := (0 : Int32)) (q := 2) (qa_e rfl h) rfl (by decide)
  obtain ⟨m1, em1⟩ : ∃ x, x = qa_u σ 99 9 (0 : Int32) := ⟨_, rfl⟩
  obtain ⟨M, h, hM, es⟩ := qa_pf (j := 9) (q := 5) (qa_e rfl h) rfl hM es rfl (by decide)
  rw [← em1] at es
  replace h := qa_aload (n := 0) (q := 6) (qa_e rfl h) rfl g0
  obtain ⟨m2, em2⟩ : ∃ x, x = (ma_181_99 N m1) := ⟨_, rfl⟩
  obtain ⟨M, h, hM, es⟩ := qa_c0 (y := 181) (as := [.ref 99]) (rest := []) (i := .invokevirtual 181) (q := 9) (qa_e rfl h) (Or.inl rfl) rfl rfl (by decide) rfl (fun r hc => mb_181_99 hN hM es hc)
  rw [← em2] at es
  replace h := qa_aload (n := 0) (q := 10) (qa_e rfl h) rfl g0
  obtain ⟨M, h, hM, es⟩ := qa_c1 (y := 190) (as := [.ref 99]) (rest := []) (i := .invokevirtual 190) (q := 13) (qa_e rfl h) (Or.inl rfl) rfl rfl (by decide) rfl (fun r hc => mb_190_99 hM es hc)
  obtain ⟨lv, h, g, T⟩ := qa_istore (n := 1) (q := 14) (qa_e rfl h) rfl
  replace g0 := T _ _ g0 (by decide) (Or.inr rfl)
  have g1 := g
  clear g T
  replace h := qa_aload (n := 0) (q := 15) (qa_e rfl h) rfl g0
  obtain ⟨M, h, hM, es⟩ := qa_c1 (y := 190) (as := [.ref 99]) (rest := []) (i := .invokevirtual 190) (q := 18) (qa_e rfl h) (Or.inl rfl) rfl rfl (by decide) rfl (fun r hc => mb_190_99 hM es hc)
  obtain ⟨lv, h, g, T⟩ := qa_istore (n := 2) (q := 19) (qa_e rfl h) rfl
  replace g0 := T _ _ g0 (by decide) (Or.inr rfl)
  replace g1 := T _ _ g1 (by decide) (Or.inr rfl)
  have g2 := g
  clear g T
  obtain ⟨r3, er3⟩ : ∃ x, x = (qa_wh (fun s => s) (mc_210_99_p19 N m2) N ((ma_190_99 m2), (ma_190_99 m2))) := ⟨_, rfl⟩
  have L := md_210_99_p19 (σ := m2) (F := f) (N := N) (r := r) hN f N hN (Nat.le_refl f) ((ma_190_99 m2), (ma_190_99 m2)) _ _ hM es g0 g1 g2 h
  rw [← er3] at L
  obtain ⟨lv, M, h, hM, es, g1⟩ := L
  replace h := qa_iload (n := 1) (q := 55) (qa_e rfl h) rfl g1
  have er := qa_ri (qa_e rfl h)
  subst er
  have e0 : ma_210_99 N σ = (r3.2, m2) := by exact Eq.trans (qa_ie em1) (Eq.trans (qa_ie em2) (Eq.trans (qa_ie er3) (rfl)))
  rw [e0]
  exact ⟨rfl, hM, es⟩
noncomputable def mc_215_p4 (N : Nat) (l0 : Int32) (s : Int32 × Int32) : (Int32 × Int32) ⊕ (Int32 × Int32) :=
  if l0 < s.1 then
    .inr (s.1, s.2)
  else
    .inl ((s.1 + (1 : Int32)), (s.2 * s.1))
theorem md_215_p4 {N F : Nat} {r : Option Value × q4_M} {l0 : Int32} {σ : qa_S} (hN : F ≤ N) : ∀ f n, f ≤ n → f ≤ F → ∀ (s : Int32 × Int32) (lv : List (Nat × Value)) (M : q4_M), qa_O M → qa_s M = σ → q4_get lv 0 = some (.int (l0)) → q4_get lv 1 = some (.int (s.2)) → q4_get lv 2 = some (.int (s.1)) → q4_run f 215 4 lv [] M 0 0 = some r → ∃ lv M, q4_run F 215 19 lv [] M 0 0 = some r ∧ qa_O M ∧ qa_s M = σ ∧ q4_get lv 1 = some (.int ((qa_wh (fun s => s) (mc_215_p4 N l0) n s).2)) := by
  intro f
  induction f with
  | zero => intro n _ _ s lv M hM es _ _ _ h; cases h
  | succ f ih =>
    intro n hn hF s lv M hM es g0 g1 g2 h
    obtain ⟨n, rfl⟩ : ∃ n1, n = n1 + 1 := ⟨n - 1, by omega⟩
    replace hn : f ≤ n := Nat.le_of_succ_le_succ hn
    have hN := Nat.le_trans (Nat.le_of_succ_le hF) hN
    replace h := qa_iload (n := 2) (q := 5) (qa_d rfl h) rfl g2
    replace h := qa_iload (n := 0) (q := 6) (qa_e rfl h) rfl g0
    by_cases c1 : l0 < s.1
    · replace h := qa_ift (q := 19) (qa_e rfl h) rfl (qa_T_gt c1)
      have e0 : mc_215_p4 N l0 s = .inr (s.1, s.2) := by exact Eq.trans (if_pos c1) (rfl)
      rw [qa_whr e0]
      exact ⟨_, _, q61_mono f F _ _ _ _ _ _ _ _ (Nat.le_of_succ_le hF) h, hM, es, g1⟩
    · replace h := qa_iff (q := 9) (qa_e rfl h) rfl (qa_F_gt c1)
      replace h := qa_iload (n := 1) (q := 10) (qa_e rfl h) rfl g1
      replace h := qa_iload (n := 2) (q := 11) (qa_e rfl h) rfl g2
      replace h := qa_imul (q := 12) (qa_e rfl h) rfl
      obtain ⟨lv, h, g, T⟩ := qa_istore (n := 1) (q := 13) (qa_e rfl h) rfl
      replace g0 := T _ _ g0 (by decide) (Or.inr rfl)
      replace g2 := T _ _ g2 (by decide) (Or.inr rfl)
      have g1 := g
      clear g T
      obtain ⟨lv, h, g, T⟩ := qa_iinc (n := 2) (z := (1 : Int32)) (q := 16) (qa_e rfl h) rfl (by decide) g2
      replace g0 := T _ _ g0 (by decide) (Or.inr rfl)
      replace g1 := T _ _ g1 (by decide) (Or.inr rfl)
      replace g2 := g
      clear g T
      replace h := qa_goto (q := 4) (qa_e rfl h) rfl
      have e0 : mc_215_p4 N l0 s = .inl ((s.1 + (1 : Int32)), (s.2 * s.1)) := by exact Eq.trans (if_neg c1) (rfl)
      rw [qa_whl e0]
      exact ih n hn (Nat.le_of_succ_le hF) ((s.1 + (1 : Int32)), (s.2 * s.1)) _ _ hM es g0 g1 g2 h
/-- BuriedBySevensModel, ordersOf, (I)I -/
noncomputable def ma_215 (N : Nat) (a0 : Int32) : Int32 :=
  qa_in ((qa_wh (fun s => s) (mc_215_p4 N a0) N ((2 : Int32), (1 : Int32)))) fun r1 =>
  r1.2
theorem mb_215 {f N : Nat} (hN : f ≤ N) {M : q4_M} {r : Option Value × q4_M} {σ : qa_S} {a0 : Int32} (hM : qa_O M) (es : qa_s M = σ) (h : q4_run f 215 0 (lv_args 0 [.int (a0)]) [] M 0 0 = some r) : r.1 = some (.int ((ma_215 N a0))) ∧ qa_O r.2 ∧ qa_s r.2 = σ := by
  obtain ⟨lv, el⟩ : ∃ l, l = lv_args 0 [.int (a0)] := ⟨_, rfl⟩
  have g0 : q4_get lv 0 = some (.int (a0)) := by rw [el]; rfl
  rw [← el] at h
  clear el
  replace h := qa_push (z := (1 : Int32)) (q := 1) (qa_e rfl h) rfl (by decide)
  obtain ⟨lv, h, g, T⟩ := qa_istore (n := 1) (q := 2) (qa_e rfl h) rfl
  replace g0 := T _ _ g0 (by decide) (Or.inr rfl)
  have g1 := g
  clear g T
  replace h := qa_push (z := (2 : Int32)) (q := 3) (qa_e rfl h) rfl (by decide)
  obtain ⟨lv, h, g, T⟩ := qa_istore (n := 2) (q := 4) (qa_e rfl h) rfl
  replace g0 := T _ _ g0 (by decide) (Or.inr rfl)
  replace g1 := T _ _ g1 (by decide) (Or.inr rfl)
  have g2 := g
  clear g T
  obtain ⟨r1, er1⟩ : ∃ x, x = (qa_wh (fun s => s) (mc_215_p4 N a0) N ((2 : Int32), (1 : Int32))) := ⟨_, rfl⟩
  have L := md_215_p4 (l0 := a0) (σ := σ) (F := f) (N := N) (r := r) hN f N hN (Nat.le_refl f) ((2 : Int32), (1 : Int32)) _ _ hM es g0 g1 g2 h
  rw [← er1] at L
  obtain ⟨lv, M, h, hM, es, g1⟩ := L
  replace h := qa_iload (n := 1) (q := 20) (qa_e rfl h) rfl g1
  have er := qa_ri (qa_e rfl h)
  subst er
  have e0 : ma_215 N a0 = r1.2 := by exact Eq.trans (qa_ie er1) (rfl)
  rw [e0]
  exact ⟨rfl, hM, es⟩
noncomputable def mc_214_99_p39 (N : Nat) (l2 : Int32) (l3 : Int32) (l4 : Int32) (l5 : Int32) (σ : qa_S) (s : Int32 × Int32) : (Int32 × Int32) ⊕ (Int32 × Int32) :=
  if (ma_185 l4 s.1) = (0 : Int32) then
    if (0 : Int32) < s.2 then
      .inl ((s.1 + (1 : Int32)), (s.2 - (if (ma_185 l4 s.1) = (0 : Int32) then (1 : Int32) else (0 : Int32))))
    else
      .inr (s.1, s.2)
  else
    .inl ((s.1 + (1 : Int32)), (s.2 - (if (ma_185 l4 s.1) = (0 : Int32) then (1 : Int32) else (0 : Int32))))
theorem md_214_99_p39 {N F : Nat} {r : Option Value × q4_M} {l2 : Int32} {l3 : Int32} {l4 : Int32} {l5 : Int32} {σ : qa_S} (hN : F ≤ N) : ∀ f n, f ≤ n → f ≤ F → ∀ (s : Int32 × Int32) (lv : List (Nat × Value)) (M : q4_M), qa_O M → qa_s M = σ → q4_get lv 0 = some (.ref 99) → q4_get lv 2 = some (.int (l2)) → q4_get lv 3 = some (.int (l3)) → q4_get lv 4 = some (.int (l4)) → q4_get lv 5 = some (.int (l5)) → q4_get lv 7 = some (.int (s.2)) → q4_get lv 8 = some (.int (s.1)) → q4_run f 214 39 lv [] M 0 0 = some r → ∃ lv M, q4_run F 214 80 lv [] M 0 0 = some r ∧ qa_O M ∧ qa_s M = σ ∧ q4_get lv 0 = some (.ref 99) ∧ q4_get lv 2 = some (.int (l2)) ∧ q4_get lv 3 = some (.int (l3)) ∧ q4_get lv 4 = some (.int (l4)) ∧ q4_get lv 5 = some (.int (l5)) ∧ q4_get lv 8 = some (.int ((qa_wh (fun s => s) (mc_214_99_p39 N l2 l3 l4 l5 σ) n s).1)) := by
  intro f
  induction f with
  | zero => intro n _ _ s lv M hM es _ _ _ _ _ _ _ h; cases h
  | succ f ih =>
    intro n hn hF s lv M hM es g0 g2 g3 g4 g5 g7 g8 h
    obtain ⟨n, rfl⟩ : ∃ n1, n = n1 + 1 := ⟨n - 1, by omega⟩
    replace hn : f ≤ n := Nat.le_of_succ_le_succ hn
    have hN := Nat.le_trans (Nat.le_of_succ_le hF) hN
    replace h := qa_iload (n := 4) (q := 41) (qa_d rfl h) rfl g4
    replace h := qa_iload (n := 8) (q := 43) (qa_e rfl h) rfl g8
    obtain ⟨M, h, hM, es⟩ := qa_c1 (y := 185) (as := [.int (l4), .int (s.1)]) (rest := []) (i := .invokestatic 185) (q := 46) (qa_e rfl h) (Or.inr rfl) rfl rfl (by decide) rfl (fun r hc => mb_185 hM es hc)
    by_cases c1 : (ma_185 l4 s.1) = (0 : Int32)
    · replace h := qa_icf (q := 49) (qa_e rfl h) rfl (qa_F_ne c1)
      replace h := qa_iload (n := 7) (q := 51) (qa_e rfl h) rfl g7
      by_cases c2 : (0 : Int32) < s.2
      · replace h := qa_icf (q := 54) (qa_e rfl h) rfl (qa_F_le c2)
        replace h := qa_iload (n := 7) (q := 56) (qa_e rfl h) rfl g7
        replace h := qa_iload (n := 4) (q := 58) (qa_e rfl h) rfl g4
        replace h := qa_iload (n := 8) (q := 60) (qa_e rfl h) rfl g8
        obtain ⟨M, h, hM, es⟩ := qa_c1 (y := 185) (as := [.int (l4), .int (s.1)]) (rest := [.int (s.2)]) (i := .invokestatic 185) (q := 63) (qa_e rfl h) (Or.inr rfl) rfl rfl (by decide) rfl (fun r hc => mb_185 hM es hc)
        obtain ⟨lv, M, h, hM, es, g0, g2, g3, g4, g5, g8⟩ : ∃ lv M, q4_run f 214 71 lv [.int ((if (ma_185 l4 s.1) = (0 : Int32) then (1 : Int32) else (0 : Int32))), .int (s.2)] M 0 0 = some r ∧ qa_O M ∧ qa_s M = σ ∧ q4_get lv 0 = some (.ref 99) ∧ q4_get lv 2 = some (.int (l2)) ∧ q4_get lv 3 = some (.int (l3)) ∧ q4_get lv 4 = some (.int (l4)) ∧ q4_get lv 5 = some (.int (l5)) ∧ q4_get lv 8 = some (.int (s.1)) := by
          by_cases c3 : (ma_185 l4 s.1) = (0 : Int32)
          · replace h := qa_ict (q := 70) (qa_e rfl h) rfl (qa_T_eq c3)
            replace h := qa_push (z := (1 : Int32)) (q := 71) (qa_e rfl h) rfl (by decide)
            exact ⟨lv, M, (qa_hi1 c3 h), hM, es, g0, g2, g3, g4, g5, g8⟩
          · replace h := qa_icf (q := 66) (qa_e rfl h) rfl (qa_F_eq c3)
            replace h := qa_push (z := (0 : Int32)) (q := 67) (qa_e rfl h) rfl (by decide)
            replace h := qa_goto (q := 71) (qa_e rfl h) rfl
            exact ⟨lv, M, (qa_hi0 c3 h), hM, es, g0, g2, g3, g4, g5, g8⟩
        replace h := qa_isub (q := 72) (qa_e rfl h) rfl
        obtain ⟨lv, h, g, T⟩ := qa_istore (n := 7) (q := 74) (qa_e rfl h) rfl
        replace g0 := T _ _ g0 (by decide) (Or.inr rfl)
        replace g2 := T _ _ g2 (by decide) (Or.inr rfl)
        replace g3 := T _ _ g3 (by decide) (Or.inr rfl)
        replace g4 := T _ _ g4 (by decide) (Or.inr rfl)
        replace g5 := T _ _ g5 (by decide) (Or.inr rfl)
        replace g8 := T _ _ g8 (by decide) (Or.inr rfl)
        have g7 := g
        clear g T
        obtain ⟨lv, h, g, T⟩ := qa_iinc (n := 8) (z := (1 : Int32)) (q := 77) (qa_e rfl h) rfl (by decide) g8
        replace g0 := T _ _ g0 (by decide) (Or.inr rfl)
        replace g2 := T _ _ g2 (by decide) (Or.inr rfl)
        replace g3 := T _ _ g3 (by decide) (Or.inr rfl)
        replace g4 := T _ _ g4 (by decide) (Or.inr rfl)
        replace g5 := T _ _ g5 (by decide) (Or.inr rfl)
        replace g7 := T _ _ g7 (by decide) (Or.inr rfl)
        replace g8 := g
        clear g T
        replace h := qa_goto (q := 39) (qa_e rfl h) rfl
        have e0 : mc_214_99_p39 N l2 l3 l4 l5 σ s = .inl ((s.1 + (1 : Int32)), (s.2 - (if (ma_185 l4 s.1) = (0 : Int32) then (1 : Int32) else (0 : Int32)))) := by exact Eq.trans (if_pos c1) (Eq.trans (if_pos c2) (rfl))
        rw [qa_whl e0]
        exact ih n hn (Nat.le_of_succ_le hF) ((s.1 + (1 : Int32)), (s.2 - (if (ma_185 l4 s.1) = (0 : Int32) then (1 : Int32) else (0 : Int32)))) _ _ hM es g0 g2 g3 g4 g5 g7 g8 h
      · replace h := qa_ict (q := 80) (qa_e rfl h) rfl (qa_T_le c2)
        have e0 : mc_214_99_p39 N l2 l3 l4 l5 σ s = .inr (s.1, s.2) := by exact Eq.trans (if_pos c1) (Eq.trans (if_neg c2) (rfl))
        rw [qa_whr e0]
        exact ⟨_, _, q61_mono f F _ _ _ _ _ _ _ _ (Nat.le_of_succ_le hF) h, hM, es, g0, g2, g3, g4, g5, g8⟩
    · replace h := qa_ict (q := 54) (qa_e rfl h) rfl (qa_T_ne c1)
      replace h := qa_iload (n := 7) (q := 56) (qa_e rfl h) rfl g7
      replace h := qa_iload (n := 4) (q := 58) (qa_e rfl h) rfl g4
      replace h := qa_iload (n := 8) (q := 60) (qa_e rfl h) rfl g8
      obtain ⟨M, h, hM, es⟩ := qa_c1 (y := 185) (as := [.int (l4), .int (s.1)]) (rest := [.int (s.2)]) (i := .invokestatic 185) (q := 63) (qa_e rfl h) (Or.inr rfl) rfl rfl (by decide) rfl (fun r hc => mb_185 hM es hc)
      obtain ⟨lv, M, h, hM, es, g0, g2, g3, g4, g5, g8⟩ : ∃ lv M, q4_run f 214 71 lv [.int ((if (ma_185 l4 s.1) = (0 : Int32) then (1 : Int32) else (0 : Int32))), .int (s.2)] M 0 0 = some r ∧ qa_O M ∧ qa_s M = σ ∧ q4_get lv 0 = some (.ref 99) ∧ q4_get lv 2 = some (.int (l2)) ∧ q4_get lv 3 = some (.int (l3)) ∧ q4_get lv 4 = some (.int (l4)) ∧ q4_get lv 5 = some (.int (l5)) ∧ q4_get lv 8 = some (.int (s.1)) := by
        by_cases c4 : (ma_185 l4 s.1) = (0 : Int32)
        · replace h := qa_ict (q := 70) (qa_e rfl h) rfl (qa_T_eq c4)
          replace h := qa_push (z := (1 : Int32)) (q := 71) (qa_e rfl h) rfl (by decide)
          exact ⟨lv, M, (qa_hi1 c4 h), hM, es, g0, g2, g3, g4, g5, g8⟩
        · replace h := qa_icf (q := 66) (qa_e rfl h) rfl (qa_F_eq c4)
          replace h := qa_push (z := (0 : Int32)) (q := 67) (qa_e rfl h) rfl (by decide)
          replace h := qa_goto (q := 71) (qa_e rfl h) rfl
          exact ⟨lv, M, (qa_hi0 c4 h), hM, es, g0, g2, g3, g4, g5, g8⟩
      replace h := qa_isub (q := 72) (qa_e rfl h) rfl
      obtain ⟨lv, h, g, T⟩ := qa_istore (n := 7) (q := 74) (qa_e rfl h) rfl
      replace g0 := T _ _ g0 (by decide) (Or.inr rfl)
      replace g2 := T _ _ g2 (by decide) (Or.inr rfl)
      replace g3 := T _ _ g3 (by decide) (Or.inr rfl)
      replace g4 := T _ _ g4 (by decide) (Or.inr rfl)
      replace g5 := T _ _ g5 (by decide) (Or.inr rfl)
      replace g8 := T _ _ g8 (by decide) (Or.inr rfl)
      have g7 := g
      clear g T
      obtain ⟨lv, h, g, T⟩ := qa_iinc (n := 8) (z := (1 : Int32)) (q := 77) (qa_e rfl h) rfl (by decide) g8
      replace g0 := T _ _ g0 (by decide) (Or.inr rfl)
      replace g2 := T _ _ g2 (by decide) (Or.inr rfl)
      replace g3 := T _ _ g3 (by decide) (Or.inr rfl)
      replace g4 := T _ _ g4 (by decide) (Or.inr rfl)
      replace g5 := T _ _ g5 (by decide) (Or.inr rfl)
      replace g7 := T _ _ g7 (by decide) (Or.inr rfl)
      replace g8 := g
      clear g T
      replace h := qa_goto (q := 39) (qa_e rfl h) rfl
      have e0 : mc_214_99_p39 N l2 l3 l4 l5 σ s = .inl ((s.1 + (1 : Int32)), (s.2 - (if (ma_185 l4 s.1) = (0 : Int32) then (1 : Int32) else (0 : Int32)))) := by exact Eq.trans (if_neg c1) (rfl)
      rw [qa_whl e0]
      exact ih n hn (Nat.le_of_succ_le hF) ((s.1 + (1 : Int32)), (s.2 - (if (ma_185 l4 s.1) = (0 : Int32) then (1 : Int32) else (0 : Int32)))) _ _ hM es g0 g2 g3 g4 g5 g7 g8 h
noncomputable def mc_214_99_p8 (N : Nat) (l2 : Int32) (s : Int32 × Int32 × Int32 × qa_S) : (Int32 × Int32 × Int32 × qa_S) ⊕ (Int32 × Int32 × Int32 × qa_S) :=
  if s.1 < l2 then
    qa_in ((ma_215 N ((l2 - (1 : Int32)) - s.1))) fun r2 =>
    qa_in ((qa_wh (fun s => s) (mc_214_99_p39 N l2 (s.2.1 - s.2.1 / r2 * r2) s.2.2.1 s.1 s.2.2.2) N ((0 : Int32), (s.2.1 / r2)))) fun r3 =>
    qa_in (qa_u s.2.2.2 121 s.1.toNatClampNeg r3.1) fun m4 =>
    .inl ((s.1 + (1 : Int32)), (s.2.1 - s.2.1 / r2 * r2), (s.2.2.1 ||| ((1 : Int32) <<< (r3.1 &&& 31))), m4)
  else
    .inr (s.1, s.2.1, s.2.2.1, s.2.2.2)
theorem md_214_99_p8 {N F : Nat} {r : Option Value × q4_M} {l2 : Int32} (hN : F ≤ N) : ∀ f n, f ≤ n → f ≤ F → ∀ (s : Int32 × Int32 × Int32 × qa_S) (lv : List (Nat × Value)) (M : q4_M), qa_O M → qa_s M = s.2.2.2 → q4_get lv 0 = some (.ref 99) → q4_get lv 2 = some (.int (l2)) → q4_get lv 3 = some (.int (s.2.1)) → q4_get lv 4 = some (.int (s.2.2.1)) → q4_get lv 5 = some (.int (s.1)) → q4_run f 214 8 lv [] M 0 0 = some r → ∃ lv M, q4_run F 214 104 lv [] M 0 0 = some r ∧ qa_O M ∧ qa_s M = (qa_wh (fun s => s) (mc_214_99_p8 N l2) n s).2.2.2 := by
  intro f
  induction f with
  | zero => intro n _ _ s lv M hM es _ _ _ _ _ h; cases h
  | succ f ih =>
    intro n hn hF s lv M hM es g0 g2 g3 g4 g5 h
    obtain ⟨n, rfl⟩ : ∃ n1, n = n1 + 1 := ⟨n - 1, by omega⟩
    replace hn : f ≤ n := Nat.le_of_succ_le_succ hn
    have hN := Nat.le_trans (Nat.le_of_succ_le hF) hN
    replace h := qa_iload (n := 5) (q := 10) (qa_d rfl h) rfl g5
    replace h := qa_iload (n := 2) (q := 11) (qa_e rfl h) rfl g2
    by_cases c1 : s.1 < l2
    · replace h := qa_iff (q := 14) (qa_e rfl h) rfl (qa_F_ge c1)
      replace h := qa_iload (n := 2) (q := 15) (qa_e rfl h) rfl g2
      replace h := qa_push (z := (1 : Int32)) (q := 16) (qa_e rfl h) rfl (by decide)
      replace h := qa_isub (q := 17) (qa_e rfl h) rfl
      replace h := qa_iload (n := 5) (q := 19) (qa_e rfl h) rfl g5
      replace h := qa_isub (q := 20) (qa_e rfl h) rfl
      obtain ⟨r2, er2⟩ : ∃ x, x = (ma_215 N ((l2 - (1 : Int32)) - s.1)) := ⟨_, rfl⟩
      obtain ⟨M, h, hM, es⟩ := qa_c1 (y := 215) (as := [.int (((l2 - (1 : Int32)) - s.1))]) (rest := []) (i := .invokestatic 215) (q := 23) (qa_e rfl h) (Or.inr rfl) rfl rfl (by decide) rfl (fun r hc => mb_215 hN hM es hc)
      rw [← er2] at h
      obtain ⟨lv, h, g, T⟩ := qa_istore (n := 6) (q := 25) (qa_e rfl h) rfl
      replace g0 := T _ _ g0 (by decide) (Or.inr rfl)
      replace g2 := T _ _ g2 (by decide) (Or.inr rfl)
      replace g3 := T _ _ g3 (by decide) (Or.inr rfl)
      replace g4 := T _ _ g4 (by decide) (Or.inr rfl)
      replace g5 := T _ _ g5 (by decide) (Or.inr rfl)
      have g6 := g
      clear g T
      replace h := qa_iload (n := 3) (q := 26) (qa_e rfl h) rfl g3
      replace h := qa_iload (n := 6) (q := 28) (qa_e rfl h) rfl g6
      replace h := qa_idiv (q := 29) (qa_e rfl h) rfl
      obtain ⟨lv, h, g, T⟩ := qa_istore (n := 7) (q := 31) (qa_e rfl h) rfl
      replace g0 := T _ _ g0 (by decide) (Or.inr rfl)
      replace g2 := T _ _ g2 (by decide) (Or.inr rfl)
      replace g3 := T _ _ g3 (by decide) (Or.inr rfl)
      replace g4 := T _ _ g4 (by decide) (Or.inr rfl)
      replace g5 := T _ _ g5 (by decide) (Or.inr rfl)
      replace g6 := T _ _ g6 (by decide) (Or.inr rfl)
      have g7 := g
      clear g T
      replace h := qa_iload (n := 3) (q := 32) (qa_e rfl h) rfl g3
      replace h := qa_iload (n := 6) (q := 34) (qa_e rfl h) rfl g6
      replace h := qa_irem (q := 35) (qa_e rfl h) rfl
      obtain ⟨lv, h, g, T⟩ := qa_istore (n := 3) (q := 36) (qa_e rfl h) rfl
      replace g0 := T _ _ g0 (by decide) (Or.inr rfl)
      replace g2 := T _ _ g2 (by decide) (Or.inr rfl)
      replace g4 := T _ _ g4 (by decide) (Or.inr rfl)
      replace g5 := T _ _ g5 (by decide) (Or.inr rfl)
      replace g7 := T _ _ g7 (by decide) (Or.inr rfl)
      have g3 := g
      clear g T
      replace h := qa_push (z := (0 : Int32)) (q := 37) (qa_e rfl h) rfl (by decide)
      obtain ⟨lv, h, g, T⟩ := qa_istore (n := 8) (q := 39) (qa_e rfl h) rfl
      replace g0 := T _ _ g0 (by decide) (Or.inr rfl)
      replace g2 := T _ _ g2 (by decide) (Or.inr rfl)
      replace g3 := T _ _ g3 (by decide) (Or.inr rfl)
      replace g4 := T _ _ g4 (by decide) (Or.inr rfl)
      replace g5 := T _ _ g5 (by decide) (Or.inr rfl)
      replace g7 := T _ _ g7 (by decide) (Or.inr rfl)
      have g8 := g
      clear g T
      obtain ⟨r3, er3⟩ : ∃ x, x = (qa_wh (fun s => s) (mc_214_99_p39 N l2 (s.2.1 - s.2.1 / r2 * r2) s.2.2.1 s.1 s.2.2.2) N ((0 : Int32), (s.2.1 / r2))) := ⟨_, rfl⟩
      have L := md_214_99_p39 (l2 := l2) (l3 := (s.2.1 - s.2.1 / r2 * r2)) (l4 := s.2.2.1) (l5 := s.1) (σ := s.2.2.2) (F := f) (N := N) (r := r) hN f N hN (Nat.le_refl f) ((0 : Int32), (s.2.1 / r2)) _ _ hM es g0 g2 g3 g4 g5 g7 g8 h
      rw [← er3] at L
      obtain ⟨lv, M, h, hM, es, g0, g2, g3, g4, g5, g8⟩ := L
      replace h := qa_aload (n := 0) (q := 81) (qa_e rfl h) rfl g0
      replace h := qa_gr (b := 121) (j := 33) (q := 84) (qa_e rfl h) rfl hM rfl (by decide)
      replace h := qa_iload (n := 5) (q := 86) (qa_e rfl h) rfl g5
      replace h := qa_iload (n := 8) (q := 88) (qa_e rfl h) rfl g8
      obtain ⟨m4, em4⟩ : ∃ x, x = qa_u s.2.2.2 121 s.1.toNatClampNeg r3.1 := ⟨_, rfl⟩
      obtain ⟨M, h, hM, es⟩ := qa_iastore (jn := s.1.toNatClampNeg) (q := 89) (qa_e rfl h) rfl hM es rfl
      rw [← em4] at es
      replace h := qa_iload (n := 4) (q := 91) (qa_e rfl h) rfl g4
      replace h := qa_push (z := (1 : Int32)) (q := 92) (qa_e rfl h) rfl (by decide)
      replace h := qa_iload (n := 8) (q := 94) (qa_e rfl h) rfl g8
      replace h := qa_ishl (q := 95) (qa_e rfl h) rfl
      replace h := qa_ior (q := 96) (qa_e rfl h) rfl
      obtain ⟨lv, h, g, T⟩ := qa_istore (n := 4) (q := 98) (qa_e rfl h) rfl
      replace g0 := T _ _ g0 (by decide) (Or.inr rfl)
      replace g2 := T _ _ g2 (by decide) (Or.inr rfl)
      replace g3 := T _ _ g3 (by decide) (Or.inr rfl)
      replace g5 := T _ _ g5 (by decide) (Or.inr rfl)
      have g4 := g
      clear g T
      obtain ⟨lv, h, g, T⟩ := qa_iinc (n := 5) (z := (1 : Int32)) (q := 101) (qa_e rfl h) rfl (by decide) g5
      replace g0 := T _ _ g0 (by decide) (Or.inr rfl)
      replace g2 := T _ _ g2 (by decide) (Or.inr rfl)
      replace g3 := T _ _ g3 (by decide) (Or.inr rfl)
      replace g4 := T _ _ g4 (by decide) (Or.inr rfl)
      replace g5 := g
      clear g T
      replace h := qa_goto (q := 8) (qa_e rfl h) rfl
      have e0 : mc_214_99_p8 N l2 s = .inl ((s.1 + (1 : Int32)), (s.2.1 - s.2.1 / r2 * r2), (s.2.2.1 ||| ((1 : Int32) <<< (r3.1 &&& 31))), m4) := by exact Eq.trans (if_pos c1) (Eq.trans (qa_ie er2) (Eq.trans (qa_ie er3) (Eq.trans (qa_ie em4) (rfl))))
      rw [qa_whl e0]
      exact ih n hn (Nat.le_of_succ_le hF) ((s.1 + (1 : Int32)), (s.2.1 - s.2.1 / r2 * r2), (s.2.2.1 ||| ((1 : Int32) <<< (r3.1 &&& 31))), m4) _ _ hM es g0 g2 g3 g4 g5 h
    · replace h := qa_ift (q := 104) (qa_e rfl h) rfl (qa_T_ge c1)
      have e0 : mc_214_99_p8 N l2 s = .inr (s.1, s.2.1, s.2.2.1, s.2.2.2) := by exact Eq.trans (if_neg c1) (rfl)
      rw [qa_whr e0]
      exact ⟨_, _, q61_mono f F _ _ _ _ _ _ _ _ (Nat.le_of_succ_le hF) h, hM, es⟩
/-- BuriedBySevensModel, layOrder, (II)V -/
noncomputable def ma_214_99 (N : Nat) (a1 : Int32) (a2 : Int32) (σ : qa_S) : qa_S :=
  qa_in ((qa_wh (fun s => s) (mc_214_99_p8 N a2) N ((0 : Int32), a1, (0 : Int32), σ))) fun r1 =>
  r1.2.2.2
theorem mb_214_99 {f N : Nat} (hN : f ≤ N) {M : q4_M} {r : Option Value × q4_M} {σ : qa_S} {a1 : Int32} {a2 : Int32} (hM : qa_O M) (es : qa_s M = σ) (h : q4_run f 214 0 (lv_args 0 [.ref 99, .int (a1), .int (a2)]) [] M 0 0 = some r) : r.1 = none ∧ qa_O r.2 ∧ qa_s r.2 = (ma_214_99 N a1 a2 σ) := by
  obtain ⟨lv, el⟩ : ∃ l, l = lv_args 0 [.ref 99, .int (a1), .int (a2)] := ⟨_, rfl⟩
  have g0 : q4_get lv 0 = some (.ref 99) := by rw [el]; rfl
  have g1 : q4_get lv 1 = some (.int (a1)) := by rw [el]; rfl
  have g2 : q4_get lv 2 = some (.int (a2)) := by rw [el]; rfl
  rw [← el] at h
  clear el
  replace h := qa_iload (n := 1) (q := 1) (qa_e rfl h) rfl g1
  obtain ⟨lv, h, g, T⟩ := qa_istore (n := 3) (q := 2) (qa_e rfl h) rfl
  replace g0 := T _ _ g0 (by decide) (Or.inr rfl)
  replace g2 := T _ _ g2 (by decide) (Or.inr rfl)
  have g3 := g
  clear g T
  replace h := qa_push (z := (0 : Int32)) (q := 3) (qa_e rfl h) rfl (by decide)
  obtain ⟨lv, h, g, T⟩ := qa_istore (n := 4) (q := 5) (qa_e rfl h) rfl
  replace g0 := T _ _ g0 (by decide) (Or.inr rfl)
  replace g2 := T _ _ g2 (by decide) (Or.inr rfl)
  replace g3 := T _ _ g3 (by decide) (Or.inr rfl)
  have g4 := g
  clear g T
  replace h := qa_push (z := (0 : Int32)) (q := 6) (qa_e rfl h) rfl (by decide)
  obtain ⟨lv, h, g, T⟩ := qa_istore (n := 5) (q := 8) (qa_e rfl h) rfl
  replace g0 := T _ _ g0 (by decide) (Or.inr rfl)
  replace g2 := T _ _ g2 (by decide) (Or.inr rfl)
  replace g3 := T _ _ g3 (by decide) (Or.inr rfl)
  replace g4 := T _ _ g4 (by decide) (Or.inr rfl)
  have g5 := g
  clear g T
  obtain ⟨r1, er1⟩ : ∃ x, x = (qa_wh (fun s => s) (mc_214_99_p8 N a2) N ((0 : Int32), a1, (0 : Int32), σ)) := ⟨_, rfl⟩
  have L := md_214_99_p8 (l2 := a2) (F := f) (N := N) (r := r) hN f N hN (Nat.le_refl f) ((0 : Int32), a1, (0 : Int32), σ) _ _ hM es g0 g2 g3 g4 g5 h
  rw [← er1] at L
  obtain ⟨lv, M, h, hM, es⟩ := L
  have er := qa_rv (qa_e rfl h)
  subst er
  have e0 : ma_214_99 N a1 a2 σ = r1.2.2.2 := by exact Eq.trans (qa_ie er1) (rfl)
  rw [e0]
  exact ⟨rfl, hM, es⟩
/-- BuriedBySevensModel, weightOf, (I)I -/
noncomputable def ma_216_99 (a1 : Int32) (σ : qa_S) : Int32 :=
  ((((σ 108 ((4 : Int32) * a1).toNatClampNeg) + (σ 108 (((4 : Int32) * a1) + (1 : Int32)).toNatClampNeg)) + (σ 108 (((4 : Int32) * a1) + (2 : Int32)).toNatClampNeg)) + (σ 108 (((4 : Int32) * a1) + (3 : Int32)).toNatClampNeg))
theorem mb_216_99 {f : Nat} {M : q4_M} {r : Option Value × q4_M} {σ : qa_S} {a1 : Int32} (hM : qa_O M) (es : qa_s M = σ) (h : q4_run f 216 0 (lv_args 0 [.ref 99, .int (a1)]) [] M 0 0 = some r) : r.1 = some (.int ((ma_216_99 a1 σ))) ∧ qa_O r.2 ∧ qa_s r.2 = σ := by
  obtain ⟨lv, el⟩ : ∃ l, l = lv_args 0 [.ref 99, .int (a1)] := ⟨_, rfl⟩
  have g0 : q4_get lv 0 = some (.ref 99) := by rw [el]; rfl
  have g1 : q4_get lv 1 = some (.int (a1)) := by rw [el]; rfl
  rw [← el] at h
  clear el
  replace h := qa_aload (n := 0) (q := 1) (qa_e rfl h) rfl g0
  replace h := qa_gr (b := 108) (j := 11) (q := 4) (qa_e rfl h) rfl hM rfl (by decide)
  replace h := qa_push (z := (4 : Int32)) (q := 5) (qa_e rfl h) rfl (by decide)
  replace h := qa_iload (n := 1) (q := 6) (qa_e rfl h) rfl g1
  replace h := qa_imul (q := 7) (qa_e rfl h) rfl
  replace h := qa_iaload (jn := ((4 : Int32) * a1).toNatClampNeg) (q := 8) (qa_e rfl h) rfl hM es rfl
  replace h := qa_aload (n := 0) (q := 9) (qa_e rfl h) rfl g0
  replace h := qa_gr (b := 108) (j := 11) (q := 12) (qa_e rfl h) rfl hM rfl (by decide)
  replace h := qa_push (z := (4 : Int32)) (q := 13) (qa_e rfl h) rfl (by decide)
  replace h := qa_iload (n := 1) (q := 14) (qa_e rfl h) rfl g1
  replace h := qa_imul (q := 15) (qa_e rfl h) rfl
  replace h := qa_push (z := (1 : Int32)) (q := 16) (qa_e rfl h) rfl (by decide)
  replace h := qa_iadd (q := 17) (qa_e rfl h) rfl
  replace h := qa_iaload (jn := (((4 : Int32) * a1) + (1 : Int32)).toNatClampNeg) (q := 18) (qa_e rfl h) rfl hM es rfl
  replace h := qa_iadd (q := 19) (qa_e rfl h) rfl
  replace h := qa_aload (n := 0) (q := 20) (qa_e rfl h) rfl g0
  replace h := qa_gr (b := 108) (j := 11) (q := 23) (qa_e rfl h) rfl hM rfl (by decide)
  replace h := qa_push (z := (4 : Int32)) (q := 24) (qa_e rfl h) rfl (by decide)
  replace h := qa_iload (n := 1) (q := 25) (qa_e rfl h) rfl g1
  replace h := qa_imul (q := 26) (qa_e rfl h) rfl
  replace h := qa_push (z := (2 : Int32)) (q := 27) (qa_e rfl h) rfl (by decide)
  replace h := qa_iadd (q := 28) (qa_e rfl h) rfl
  replace h := qa_iaload (jn := (((4 : Int32) * a1) + (2 : Int32)).toNatClampNeg) (q := 29) (qa_e rfl h) rfl hM es rfl
  replace h := qa_iadd (q := 30) (qa_e rfl h) rfl
  replace h := qa_aload (n := 0) (q := 31) (qa_e rfl h) rfl g0
  replace h := qa_gr (b := 108) (j := 11) (q := 34) (qa_e rfl h) rfl hM rfl (by decide)
  replace h := qa_push (z := (4 : Int32)) (q := 35) (qa_e rfl h) rfl (by decide)
  replace h := qa_iload (n := 1) (q := 36) (qa_e rfl h) rfl g1
  replace h := qa_imul (q := 37) (qa_e rfl h) rfl
  replace h := qa_push (z := (3 : Int32)) (q := 38) (qa_e rfl h) rfl (by decide)
  replace h := qa_iadd (q := 39) (qa_e rfl h) rfl
  replace h := qa_iaload (jn := (((4 : Int32) * a1) + (3 : Int32)).toNatClampNeg) (q := 40) (qa_e rfl h) rfl hM es rfl
  replace h := qa_iadd (q := 41) (qa_e rfl h) rfl
  have er := qa_ri (qa_e rfl h)
  subst er
  have e0 : ma_216_99 a1 σ = ((((σ 108 ((4 : Int32) * a1).toNatClampNeg) + (σ 108 (((4 : Int32) * a1) + (1 : Int32)).toNatClampNeg)) + (σ 108 (((4 : Int32) * a1) + (2 : Int32)).toNatClampNeg)) + (σ 108 (((4 : Int32) * a1) + (3 : Int32)).toNatClampNeg)) := by exact rfl
  rw [e0]
  exact ⟨rfl, hM, es⟩
noncomputable def mc_213_99_p14 (N : Nat) (l1 : Int32) (σ : qa_S) (s : Int32 × Int32) : (Int32 × Int32) ⊕ (Int32 × Int32) :=
  if s.1 < (σ 99 0) then
    .inl ((s.1 + (1 : Int32)), (s.2 + (if (((((σ 99 0) - (1 : Int32)) - s.1) * (ma_216_99 (σ 121 s.1.toNatClampNeg) σ)) - ((σ 106 l1.toNatClampNeg) * s.1)) < (0 : Int32) then (0 : Int32) else (((((σ 99 0) - (1 : Int32)) - s.1) * (ma_216_99 (σ 121 s.1.toNatClampNeg) σ)) - ((σ 106 l1.toNatClampNeg) * s.1)))))
  else
    .inr (s.1, s.2)
theorem md_213_99_p14 {N F : Nat} {r : Option Value × q4_M} {l1 : Int32} {σ : qa_S} (hN : F ≤ N) : ∀ f n, f ≤ n → f ≤ F → ∀ (s : Int32 × Int32) (lv : List (Nat × Value)) (M : q4_M), qa_O M → qa_s M = σ → q4_get lv 0 = some (.ref 99) → q4_get lv 1 = some (.int (l1)) → q4_get lv 3 = some (.int (s.2)) → q4_get lv 4 = some (.int (s.1)) → q4_run f 213 14 lv [] M 0 0 = some r → ∃ lv M, q4_run F 213 76 lv [] M 0 0 = some r ∧ qa_O M ∧ qa_s M = σ ∧ q4_get lv 3 = some (.int ((qa_wh (fun s => s) (mc_213_99_p14 N l1 σ) n s).2)) := by
  intro f
  induction f with
  | zero => intro n _ _ s lv M hM es _ _ _ _ h; cases h
  | succ f ih =>
    intro n hn hF s lv M hM es g0 g1 g3 g4 h
    obtain ⟨n, rfl⟩ : ∃ n1, n = n1 + 1 := ⟨n - 1, by omega⟩
    replace hn : f ≤ n := Nat.le_of_succ_le_succ hn
    have hN := Nat.le_trans (Nat.le_of_succ_le hF) hN
    replace h := qa_iload (n := 4) (q := 16) (qa_d rfl h) rfl g4
    replace h := qa_aload (n := 0) (q := 17) (qa_e rfl h) rfl g0
    replace h := qa_gi (j := 0) (q := 20) (qa_e rfl h) rfl hM es rfl (by decide)
    by_cases c1 : s.1 < (σ 99 0)
    · replace h := qa_iff (q := 23) (qa_e rfl h) rfl (qa_F_ge c1)
      replace h := qa_aload (n := 0) (q := 24) (qa_e rfl h) rfl g0
      replace h := qa_gi (j := 0) (q := 27) (qa_e rfl h) rfl hM es rfl (by decide)
      replace h := qa_push (z := (1 : Int32)) (q := 28) (qa_e rfl h) rfl (by decide)
      replace h := qa_isub (q := 29) (qa_e rfl h) rfl
      replace h := qa_iload (n := 4) (q := 31) (qa_e rfl h) rfl g4
      replace h := qa_isub (q := 32) (qa_e rfl h) rfl
      replace h := qa_aload (n := 0) (q := 33) (qa_e rfl h) rfl g0
      replace h := qa_aload (n := 0) (q := 34) (qa_e rfl h) rfl g0
      replace h := qa_gr (b := 121) (j := 33) (q := 37) (qa_e rfl h) rfl hM rfl (by decide)
      replace h := qa_iload (n := 4) (q := 39) (qa_e rfl h) rfl g4
      replace h := qa_iaload (jn := s.1.toNatClampNeg) (q := 40) (qa_e rfl h) rfl hM es rfl
      obtain ⟨M, h, hM, es⟩ := qa_c1 (y := 216) (as := [.ref 99, .int ((σ 121 s.1.toNatClampNeg))]) (rest := [.int ((((σ 99 0) - (1 : Int32)) - s.1))]) (i := .invokevirtual 216) (q := 43) (qa_e rfl h) (Or.inl rfl) rfl rfl (by decide) rfl (fun r hc => mb_216_99 hM es hc)
      replace h := qa_imul (q := 44) (qa_e rfl h) rfl
      replace h := qa_aload (n := 0) (q := 45) (qa_e rfl h) rfl g0
      replace h := qa_gr (b := 106) (j := 8) (q := 48) (qa_e rfl h) rfl hM rfl (by decide)
      replace h := qa_iload (n := 1) (q := 49) (qa_e rfl h) rfl g1
      replace h := qa_iaload (jn := l1.toNatClampNeg) (q := 50) (qa_e rfl h) rfl hM es rfl
      replace h := qa_iload (n := 4) (q := 52) (qa_e rfl h) rfl g4
      replace h := qa_imul (q := 53) (qa_e rfl h) rfl
      replace h := qa_isub (q := 54) (qa_e rfl h) rfl
      obtain ⟨lv, h, g, T⟩ := qa_istore (n := 5) (q := 56) (qa_e rfl h) rfl
      replace g0 := T _ _ g0 (by decide) (Or.inr rfl)
      replace g1 := T _ _ g1 (by decide) (Or.inr rfl)
      replace g3 := T _ _ g3 (by decide) (Or.inr rfl)
      replace g4 := T _ _ g4 (by decide) (Or.inr rfl)
      have g5 := g
      clear g T
      replace h := qa_iload (n := 3) (q := 57) (qa_e rfl h) rfl g3
      replace h := qa_iload (n := 5) (q := 59) (qa_e rfl h) rfl g5
      obtain ⟨lv, M, h, hM, es, g0, g1, g4⟩ : ∃ lv M, q4_run f 213 68 lv [.int ((if (((((σ 99 0) - (1 : Int32)) - s.1) * (ma_216_99 (σ 121 s.1.toNatClampNeg) σ)) - ((σ 106 l1.toNatClampNeg) * s.1)) < (0 : Int32) then (0 : Int32) else (((((σ 99 0) - (1 : Int32)) - s.1) * (ma_216_99 (σ 121 s.1.toNatClampNeg) σ)) - ((σ 106 l1.toNatClampNeg) * s.1)))), .int (s.2)] M 0 0 = some r ∧ qa_O M ∧ qa_s M = σ ∧ q4_get lv 0 = some (.ref 99) ∧ q4_get lv 1 = some (.int (l1)) ∧ q4_get lv 4 = some (.int (s.1)) := by
        by_cases c2 : (((((σ 99 0) - (1 : Int32)) - s.1) * (ma_216_99 (σ 121 s.1.toNatClampNeg) σ)) - ((σ 106 l1.toNatClampNeg) * s.1)) < (0 : Int32)
        · replace h := qa_icf (q := 62) (qa_e rfl h) rfl (qa_F_ge c2)
          replace h := qa_push (z := (0 : Int32)) (q := 63) (qa_e rfl h) rfl (by decide)
          replace h := qa_goto (q := 68) (qa_e rfl h) rfl
          exact ⟨lv, M, (qa_hi1 c2 h), hM, es, g0, g1, g4⟩
        · replace h := qa_ict (q := 66) (qa_e rfl h) rfl (qa_T_ge c2)
          replace h := qa_iload (n := 5) (q := 68) (qa_e rfl h) rfl g5
          exact ⟨lv, M, (qa_hi0 c2 h), hM, es, g0, g1, g4⟩
      replace h := qa_iadd (q := 69) (qa_e rfl h) rfl
      obtain ⟨lv, h, g, T⟩ := qa_istore (n := 3) (q := 70) (qa_e rfl h) rfl
      replace g0 := T _ _ g0 (by decide) (Or.inr rfl)
      replace g1 := T _ _ g1 (by decide) (Or.inr rfl)
      replace g4 := T _ _ g4 (by decide) (Or.inr rfl)
      have g3 := g
      clear g T
      obtain ⟨lv, h, g, T⟩ := qa_iinc (n := 4) (z := (1 : Int32)) (q := 73) (qa_e rfl h) rfl (by decide) g4
      replace g0 := T _ _ g0 (by decide) (Or.inr rfl)
      replace g1 := T _ _ g1 (by decide) (Or.inr rfl)
      replace g3 := T _ _ g3 (by decide) (Or.inr rfl)
      replace g4 := g
      clear g T
      replace h := qa_goto (q := 14) (qa_e rfl h) rfl
      have e0 : mc_213_99_p14 N l1 σ s = .inl ((s.1 + (1 : Int32)), (s.2 + (if (((((σ 99 0) - (1 : Int32)) - s.1) * (ma_216_99 (σ 121 s.1.toNatClampNeg) σ)) - ((σ 106 l1.toNatClampNeg) * s.1)) < (0 : Int32) then (0 : Int32) else (((((σ 99 0) - (1 : Int32)) - s.1) * (ma_216_99 (σ 121 s.1.toNatClampNeg) σ)) - ((σ 106 l1.toNatClampNeg) * s.1))))) := by exact Eq.trans (if_pos c1) (rfl)
      rw [qa_whl e0]
      exact ih n hn (Nat.le_of_succ_le hF) ((s.1 + (1 : Int32)), (s.2 + (if (((((σ 99 0) - (1 : Int32)) - s.1) * (ma_216_99 (σ 121 s.1.toNatClampNeg) σ)) - ((σ 106 l1.toNatClampNeg) * s.1)) < (0 : Int32) then (0 : Int32) else (((((σ 99 0) - (1 : Int32)) - s.1) * (ma_216_99 (σ 121 s.1.toNatClampNeg) σ)) - ((σ 106 l1.toNatClampNeg) * s.1))))) _ _ hM es g0 g1 g3 g4 h
    · replace h := qa_ift (q := 76) (qa_e rfl h) rfl (qa_T_ge c1)
      have e0 : mc_213_99_p14 N l1 σ s = .inr (s.1, s.2) := by exact Eq.trans (if_neg c1) (rfl)
      rw [qa_whr e0]
      exact ⟨_, _, q61_mono f F _ _ _ _ _ _ _ _ (Nat.le_of_succ_le hF) h, hM, es, g3⟩
/-- BuriedBySevensModel, forgottenBy, (II)I -/
noncomputable def ma_213_99 (N : Nat) (a1 : Int32) (a2 : Int32) (σ : qa_S) : Int32 × qa_S :=
  qa_in ((ma_214_99 N a2 (σ 99 0) σ)) fun m1 =>
  qa_in ((qa_wh (fun s => s) (mc_213_99_p14 N a1 m1) N ((0 : Int32), (0 : Int32)))) fun r2 =>
  (r2.2, m1)
theorem mb_213_99 {f N : Nat} (hN : f ≤ N) {M : q4_M} {r : Option Value × q4_M} {σ : qa_S} {a1 : Int32} {a2 : Int32} (hM : qa_O M) (es : qa_s M = σ) (h : q4_run f 213 0 (lv_args 0 [.ref 99, .int (a1), .int (a2)]) [] M 0 0 = some r) : r.1 = some (.int ((ma_213_99 N a1 a2 σ).1)) ∧ qa_O r.2 ∧ qa_s r.2 = (ma_213_99 N a1 a2 σ).2 := by
  obtain ⟨lv, el⟩ : ∃ l, l = lv_args 0 [.ref 99, .int (a1), .int (a2)] := ⟨_, rfl⟩
  have g0 : q4_get lv 0 = some (.ref 99) := by rw [el]; rfl
  have g1 : q4_get lv 1 = some (.int (a1)) := by rw [el]; rfl
  have g2 : q4_get lv 2 = some (.int (a2)) := by rw [el]; rfl
  rw [← el] at h
  clear el
  replace h := qa_aload (n := 0) (q := 1) (qa_e rfl h) rfl g0
  replace h := qa_iload (n := 2) (q := 2) (qa_e rfl h) rfl g2
  replace h := qa_aload (n := 0) (q := 3) (qa_e rfl h) rfl g0
  replace h := qa_gi (j := 0) (q := 6) (qa_e rfl h) rfl hM es rfl (by decide)
  obtain ⟨m1, em1⟩ : ∃ x, x = (ma_214_99 N a2 (σ 99 0) σ) := ⟨_, rfl⟩
  obtain ⟨M, h, hM, es⟩ := qa_c0 (y := 214) (as := [.ref 99, .int (a2), .int ((σ 99 0))]) (rest := []) (i := .invokevirtual 214) (q := 9) (qa_e rfl h) (Or.inl rfl) rfl rfl (by decide) rfl (fun r hc => mb_214_99 hN hM es hc)
  rw [← em1] at es
  replace h := qa_push (z := (0 : Int32)) (q := 10) (qa_e rfl h) rfl (by decide)
  obtain ⟨lv, h, g, T⟩ := qa_istore (n := 3) (q := 11) (qa_e rfl h) rfl
  replace g0 := T _ _ g0 (by decide) (Or.inr rfl)
  replace g1 := T _ _ g1 (by decide) (Or.inr rfl)
  have g3 := g
  clear g T
  replace h := qa_push (z := (0 : Int32)) (q := 12) (qa_e rfl h) rfl (by decide)
  obtain ⟨lv, h, g, T⟩ := qa_istore (n := 4) (q := 14) (qa_e rfl h) rfl
  replace g0 := T _ _ g0 (by decide) (Or.inr rfl)
  replace g1 := T _ _ g1 (by decide) (Or.inr rfl)
  replace g3 := T _ _ g3 (by decide) (Or.inr rfl)
  have g4 := g
  clear g T
  obtain ⟨r2, er2⟩ : ∃ x, x = (qa_wh (fun s => s) (mc_213_99_p14 N a1 m1) N ((0 : Int32), (0 : Int32))) := ⟨_, rfl⟩
  have L := md_213_99_p14 (l1 := a1) (σ := m1) (F := f) (N := N) (r := r) hN f N hN (Nat.le_refl f) ((0 : Int32), (0 : Int32)) _ _ hM es g0 g1 g3 g4 h
  rw [← er2] at L
  obtain ⟨lv, M, h, hM, es, g3⟩ := L
  replace h := qa_iload (n := 3) (q := 77) (qa_e rfl h) rfl g3
  have er := qa_ri (qa_e rfl h)
  subst er
  have e0 : ma_213_99 N a1 a2 σ = (r2.2, m1) := by exact Eq.trans (qa_ie em1) (Eq.trans (qa_ie er2) (rfl))
  rw [e0]
  exact ⟨rfl, hM, es⟩
noncomputable def mc_212_99_p80 (N : Nat) (l1 : Int32) (l2 : Int32) (l6 : Int32) (s : Int32 × Int32 × Int32 × qa_S) : (Int32 × Int32 × Int32 × qa_S) ⊕ (Int32 × Int32 × Int32 × qa_S) :=
  if s.1 < l6 then
    qa_in ((ma_213_99 N l1 s.1 s.2.2.2)) fun r2 =>
    .inl ((s.1 + (1 : Int32)), (if r2.1 < s.2.2.1 then s.1 else s.2.1), (if r2.1 < s.2.2.1 then r2.1 else s.2.2.1), r2.2)
  else
    .inr (s.1, s.2.1, s.2.2.1, s.2.2.2)
theorem md_212_99_p80 {N F : Nat} {r : Option Value × q4_M} {l1 : Int32} {l2 : Int32} {l6 : Int32} (hN : F ≤ N) : ∀ f n, f ≤ n → f ≤ F → ∀ (s : Int32 × Int32 × Int32 × qa_S) (lv : List (Nat × Value)) (M : q4_M), qa_O M → qa_s M = s.2.2.2 → q4_get lv 0 = some (.ref 99) → q4_get lv 1 = some (.int (l1)) → q4_get lv 2 = some (.int (l2)) → q4_get lv 4 = some (.int (s.2.1)) → q4_get lv 5 = some (.int (s.2.2.1)) → q4_get lv 6 = some (.int (l6)) → q4_get lv 7 = some (.int (s.1)) → q4_run f 212 80 lv [] M 0 0 = some r → ∃ lv M, q4_run F 212 134 lv [] M 0 0 = some r ∧ qa_O M ∧ qa_s M = (qa_wh (fun s => s) (mc_212_99_p80 N l1 l2 l6) n s).2.2.2 ∧ q4_get lv 0 = some (.ref 99) ∧ q4_get lv 2 = some (.int (l2)) ∧ q4_get lv 4 = some (.int ((qa_wh (fun s => s) (mc_212_99_p80 N l1 l2 l6) n s).2.1)) ∧ q4_get lv 5 = some (.int ((qa_wh (fun s => s) (mc_212_99_p80 N l1 l2 l6) n s).2.2.1)) := by
  intro f
  induction f with
  | zero => intro n _ _ s lv M hM es _ _ _ _ _ _ _ h; cases h
  | succ f ih =>
    intro n hn hF s lv M hM es g0 g1 g2 g4 g5 g6 g7 h
    obtain ⟨n, rfl⟩ : ∃ n1, n = n1 + 1 := ⟨n - 1, by omega⟩
    replace hn : f ≤ n := Nat.le_of_succ_le_succ hn
    have hN := Nat.le_trans (Nat.le_of_succ_le hF) hN
    replace h := qa_iload (n := 7) (q := 82) (qa_d rfl h) rfl g7
    replace h := qa_iload (n := 6) (q := 84) (qa_e rfl h) rfl g6
    by_cases c1 : s.1 < l6
    · replace h := qa_iff (q := 87) (qa_e rfl h) rfl (qa_F_ge c1)
      replace h := qa_aload (n := 0) (q := 88) (qa_e rfl h) rfl g0
      replace h := qa_iload (n := 1) (q := 89) (qa_e rfl h) rfl g1
      replace h := qa_iload (n := 7) (q := 91) (qa_e rfl h) rfl g7
      obtain ⟨r2, er2⟩ : ∃ x, x = (ma_213_99 N l1 s.1 s.2.2.2) := ⟨_, rfl⟩
      obtain ⟨M, h, hM, es⟩ := qa_c1 (y := 213) (as := [.ref 99, .int (l1), .int (s.1)]) (rest := []) (i := .invokevirtual 213) (q := 94) (qa_e rfl h) (Or.inl rfl) rfl rfl (by decide) rfl (fun r hc => mb_213_99 hN hM es hc)
      rw [← er2] at h es
      obtain ⟨lv, h, g, T⟩ := qa_istore (n := 8) (q := 96) (qa_e rfl h) rfl
      replace g0 := T _ _ g0 (by decide) (Or.inr rfl)
      replace g1 := T _ _ g1 (by decide) (Or.inr rfl)
      replace g2 := T _ _ g2 (by decide) (Or.inr rfl)
      replace g4 := T _ _ g4 (by decide) (Or.inr rfl)
      replace g5 := T _ _ g5 (by decide) (Or.inr rfl)
      replace g6 := T _ _ g6 (by decide) (Or.inr rfl)
      replace g7 := T _ _ g7 (by decide) (Or.inr rfl)
      have g8 := g
      clear g T
      replace h := qa_iload (n := 8) (q := 98) (qa_e rfl h) rfl g8
      replace h := qa_iload (n := 5) (q := 100) (qa_e rfl h) rfl g5
      obtain ⟨lv, M, h, hM, es, g0, g1, g2, g5, g6, g7, g8⟩ : ∃ lv M, q4_run f 212 110 lv [.int ((if r2.1 < s.2.2.1 then s.1 else s.2.1))] M 0 0 = some r ∧ qa_O M ∧ qa_s M = r2.2 ∧ q4_get lv 0 = some (.ref 99) ∧ q4_get lv 1 = some (.int (l1)) ∧ q4_get lv 2 = some (.int (l2)) ∧ q4_get lv 5 = some (.int (s.2.2.1)) ∧ q4_get lv 6 = some (.int (l6)) ∧ q4_get lv 7 = some (.int (s.1)) ∧ q4_get lv 8 = some (.int (r2.1)) := by
        by_cases c3 : r2.1 < s.2.2.1
        · replace h := qa_iff (q := 103) (qa_e rfl h) rfl (qa_F_ge c3)
          replace h := qa_iload (n := 7) (q := 105) (qa_e rfl h) rfl g7
          replace h := qa_goto (q := 110) (qa_e rfl h) rfl
          exact ⟨lv, M, (qa_hi1 c3 h), hM, es, g0, g1, g2, g5, g6, g7, g8⟩
        · replace h := qa_ift (q := 108) (qa_e rfl h) rfl (qa_T_ge c3)
          replace h := qa_iload (n := 4) (q := 110) (qa_e rfl h) rfl g4
          exact ⟨lv, M, (qa_hi0 c3 h), hM, es, g0, g1, g2, g5, g6, g7, g8⟩
      obtain ⟨lv, h, g, T⟩ := qa_istore (n := 4) (q := 112) (qa_e rfl h) rfl
      replace g0 := T _ _ g0 (by decide) (Or.inr rfl)
      replace g1 := T _ _ g1 (by decide) (Or.inr rfl)
      replace g2 := T _ _ g2 (by decide) (Or.inr rfl)
      replace g5 := T _ _ g5 (by decide) (Or.inr rfl)
      replace g6 := T _ _ g6 (by decide) (Or.inr rfl)
      replace g7 := T _ _ g7 (by decide) (Or.inr rfl)
      replace g8 := T _ _ g8 (by decide) (Or.inr rfl)
      have g4 := g
      clear g T
      replace h := qa_iload (n := 8) (q := 114) (qa_e rfl h) rfl g8
      replace h := qa_iload (n := 5) (q := 116) (qa_e rfl h) rfl g5
      obtain ⟨lv, M, h, hM, es, g0, g1, g2, g4, g6, g7⟩ : ∃ lv M, q4_run f 212 126 lv [.int ((if r2.1 < s.2.2.1 then r2.1 else s.2.2.1))] M 0 0 = some r ∧ qa_O M ∧ qa_s M = r2.2 ∧ q4_get lv 0 = some (.ref 99) ∧ q4_get lv 1 = some (.int (l1)) ∧ q4_get lv 2 = some (.int (l2)) ∧ q4_get lv 4 = some (.int ((if r2.1 < s.2.2.1 then s.1 else s.2.1))) ∧ q4_get lv 6 = some (.int (l6)) ∧ q4_get lv 7 = some (.int (s.1)) := by
        by_cases c4 : r2.1 < s.2.2.1
        · replace h := qa_iff (q := 119) (qa_e rfl h) rfl (qa_F_ge c4)
          replace h := qa_iload (n := 8) (q := 121) (qa_e rfl h) rfl g8
          replace h := qa_goto (q := 126) (qa_e rfl h) rfl
          exact ⟨lv, M, (qa_hi1 c4 h), hM, es, g0, g1, g2, g4, g6, g7⟩
        · replace h := qa_ift (q := 124) (qa_e rfl h) rfl (qa_T_ge c4)
          replace h := qa_iload (n := 5) (q := 126) (qa_e rfl h) rfl g5
          exact ⟨lv, M, (qa_hi0 c4 h), hM, es, g0, g1, g2, g4, g6, g7⟩
      obtain ⟨lv, h, g, T⟩ := qa_istore (n := 5) (q := 128) (qa_e rfl h) rfl
      replace g0 := T _ _ g0 (by decide) (Or.inr rfl)
      replace g1 := T _ _ g1 (by decide) (Or.inr rfl)
      replace g2 := T _ _ g2 (by decide) (Or.inr rfl)
      replace g4 := T _ _ g4 (by decide) (Or.inr rfl)
      replace g6 := T _ _ g6 (by decide) (Or.inr rfl)
      replace g7 := T _ _ g7 (by decide) (Or.inr rfl)
      have g5 := g
      clear g T
      obtain ⟨lv, h, g, T⟩ := qa_iinc (n := 7) (z := (1 : Int32)) (q := 131) (qa_e rfl h) rfl (by decide) g7
      replace g0 := T _ _ g0 (by decide) (Or.inr rfl)
      replace g1 := T _ _ g1 (by decide) (Or.inr rfl)
      replace g2 := T _ _ g2 (by decide) (Or.inr rfl)
      replace g4 := T _ _ g4 (by decide) (Or.inr rfl)
      replace g5 := T _ _ g5 (by decide) (Or.inr rfl)
      replace g6 := T _ _ g6 (by decide) (Or.inr rfl)
      replace g7 := g
      clear g T
      replace h := qa_goto (q := 80) (qa_e rfl h) rfl
      have e0 : mc_212_99_p80 N l1 l2 l6 s = .inl ((s.1 + (1 : Int32)), (if r2.1 < s.2.2.1 then s.1 else s.2.1), (if r2.1 < s.2.2.1 then r2.1 else s.2.2.1), r2.2) := by exact Eq.trans (if_pos c1) (Eq.trans (qa_ie er2) (rfl))
      rw [qa_whl e0]
      exact ih n hn (Nat.le_of_succ_le hF) ((s.1 + (1 : Int32)), (if r2.1 < s.2.2.1 then s.1 else s.2.1), (if r2.1 < s.2.2.1 then r2.1 else s.2.2.1), r2.2) _ _ hM es g0 g1 g2 g4 g5 g6 g7 h
    · replace h := qa_ift (q := 134) (qa_e rfl h) rfl (qa_T_ge c1)
      have e0 : mc_212_99_p80 N l1 l2 l6 s = .inr (s.1, s.2.1, s.2.2.1, s.2.2.2) := by exact Eq.trans (if_neg c1) (rfl)
      rw [qa_whr e0]
      exact ⟨_, _, q61_mono f F _ _ _ _ _ _ _ _ (Nat.le_of_succ_le hF) h, hM, es, g0, g2, g4, g5⟩
/-- BuriedBySevensModel, order, (II)I -/
noncomputable def ma_212_99 (N : Nat) (a1 : Int32) (a2 : Int32) (σ : qa_S) : Int32 × qa_S :=
  qa_in (qa_u σ 99 9 (0 : Int32)) fun m1 =>
  if (if (ma_171_99 a1 m1) = (0 : Int32) then (-1 : Int32) else (if a2 < (-1 : Int32) then (-4 : Int32) else (if (6 : Int32) < (m1 99 0) then (-3 : Int32) else (0 : Int32)))) < (0 : Int32) then
    qa_in ((ma_152_99 (if (ma_171_99 a1 m1) = (0 : Int32) then (-1 : Int32) else (if a2 < (-1 : Int32) then (-4 : Int32) else (if (6 : Int32) < (m1 99 0) then (-3 : Int32) else (0 : Int32)))) m1)) fun r6 =>
    (r6.1, r6.2)
  else
    qa_in ((ma_181_99 N m1)) fun m7 =>
    qa_in ((ma_213_99 N a1 (0 : Int32) m7)) fun r8 =>
    qa_in ((ma_215 N (r8.2 99 0))) fun r9 =>
    qa_in ((qa_wh (fun s => s) (mc_212_99_p80 N a1 a2 r9) N ((1 : Int32), (0 : Int32), r8.1, r8.2))) fun r10 =>
    if a2 < (0 : Int32) then
      (r10.2.2.1, r10.2.2.2)
    else
      qa_in ((ma_214_99 N r10.2.1 (r10.2.2.2 99 0) r10.2.2.2)) fun m12 =>
      ((if a2 < (m12 99 0) then (m12 121 a2.toNatClampNeg) else (-9 : Int32)), m12)
theorem mb_212_99 {f N : Nat} (hN : f ≤ N) {M : q4_M} {r : Option Value × q4_M} {σ : qa_S} {a1 : Int32} {a2 : Int32} (hM : qa_O M) (es : qa_s M = σ) (h : q4_run f 212 0 (lv_args 0 [.ref 99, .int (a1), .int (a2)]) [] M 0 0 = some r) : r.1 = some (.int ((ma_212_99 N a1 a2 σ).1)) ∧ qa_O r.2 ∧ qa_s r.2 = (ma_212_99 N a1 a2 σ).2 := by
  obtain ⟨lv, el⟩ : ∃ l, l = lv_args 0 [.ref 99, .int (a1), .int (a2)] := ⟨_, rfl⟩
  have g0 : q4_get lv 0 = some (.ref 99) := by rw [el]; rfl
  have g1 : q4_get lv 1 = some (.int (a1)) := by rw [el]; rfl
  have g2 : q4_get lv 2 = some (.int (a2)) := by rw [el]; rfl
  rw [← el] at h
  clear el
  replace h := qa_aload (n := 0) (q := 1) (qa_e rfl h) rfl g0
  replace h := qa_push (z := (0 : Int32)) (q := 2) (qa_e rfl h) rfl (by decide)
  obtain ⟨m1, em1⟩ : ∃ x, x = qa_u σ 99 9 (0 : Int32) := ⟨_, rfl⟩
  obtain ⟨M, h, hM, es⟩ := qa_pf (j := 9) (q := 5) (qa_e rfl h) rfl hM es rfl (by decide)
  rw [← em1] at es
  replace h := qa_aload (n := 0) (q := 6) (qa_e rfl h) rfl g0
  replace h := qa_iload (n := 1) (q := 7) (qa_e rfl h) rfl g1
  obtain ⟨M, h, hM, es⟩ := qa_c1 (y := 171) (as := [.ref 99, .int (a1)]) (rest := []) (i := .invokevirtual 171) (q := 10) (qa_e rfl h) (Or.inl rfl) rfl rfl (by decide) rfl (fun r hc => mb_171_99 hM es hc)
  obtain ⟨lv, M, h, hM, es, g0, g1, g2⟩ : ∃ lv M, q4_run f 212 42 lv [.int ((if (ma_171_99 a1 m1) = (0 : Int32) then (-1 : Int32) else (if a2 < (-1 : Int32) then (-4 : Int32) else (if (6 : Int32) < (m1 99 0) then (-3 : Int32) else (0 : Int32)))))] M 0 0 = some r ∧ qa_O M ∧ qa_s M = m1 ∧ q4_get lv 0 = some (.ref 99) ∧ q4_get lv 1 = some (.int (a1)) ∧ q4_get lv 2 = some (.int (a2)) := by
    by_cases c2 : (ma_171_99 a1 m1) = (0 : Int32)
    · replace h := qa_icf (q := 13) (qa_e rfl h) rfl (qa_F_ne c2)
      replace h := qa_push (z := (-1 : Int32)) (q := 14) (qa_e rfl h) rfl (by decide)
      replace h := qa_goto (q := 42) (qa_e rfl h) rfl
      exact ⟨lv, M, (qa_hi1 c2 h), hM, es, g0, g1, g2⟩
    · replace h := qa_ict (q := 17) (qa_e rfl h) rfl (qa_T_ne c2)
      replace h := qa_iload (n := 2) (q := 18) (qa_e rfl h) rfl g2
      replace h := qa_push (z := (-1 : Int32)) (q := 19) (qa_e rfl h) rfl (by decide)
      obtain ⟨lv, M, h, hM, es, g0, g1, g2⟩ : ∃ lv M, q4_run f 212 42 lv [.int ((if a2 < (-1 : Int32) then (-4 : Int32) else (if (6 : Int32) < (m1 99 0) then (-3 : Int32) else (0 : Int32))))] M 0 0 = some r ∧ qa_O M ∧ qa_s M = m1 ∧ q4_get lv 0 = some (.ref 99) ∧ q4_get lv 1 = some (.int (a1)) ∧ q4_get lv 2 = some (.int (a2)) := by
        by_cases c3 : a2 < (-1 : Int32)
        · replace h := qa_iff (q := 22) (qa_e rfl h) rfl (qa_F_ge c3)
          replace h := qa_push (z := (-4 : Int32)) (q := 24) (qa_e rfl h) rfl (by decide)
          replace h := qa_goto (q := 42) (qa_e rfl h) rfl
          exact ⟨lv, M, (qa_hi1 c3 h), hM, es, g0, g1, g2⟩
        · replace h := qa_ift (q := 27) (qa_e rfl h) rfl (qa_T_ge c3)
          replace h := qa_aload (n := 0) (q := 28) (qa_e rfl h) rfl g0
          replace h := qa_gi (j := 0) (q := 31) (qa_e rfl h) rfl hM es rfl (by decide)
          replace h := qa_push (z := (6 : Int32)) (q := 33) (qa_e rfl h) rfl (by decide)
          obtain ⟨lv, M, h, hM, es, g0, g1, g2⟩ : ∃ lv M, q4_run f 212 42 lv [.int ((if (6 : Int32) < (m1 99 0) then (-3 : Int32) else (0 : Int32)))] M 0 0 = some r ∧ qa_O M ∧ qa_s M = m1 ∧ q4_get lv 0 = some (.ref 99) ∧ q4_get lv 1 = some (.int (a1)) ∧ q4_get lv 2 = some (.int (a2)) := by
            by_cases c4 : (6 : Int32) < (m1 99 0)
            · replace h := qa_iff (q := 36) (qa_e rfl h) rfl (qa_F_le c4)
              replace h := qa_push (z := (-3 : Int32)) (q := 38) (qa_e rfl h) rfl (by decide)
              replace h := qa_goto (q := 42) (qa_e rfl h) rfl
              exact ⟨lv, M, (qa_hi1 c4 h), hM, es, g0, g1, g2⟩
            · replace h := qa_ift (q := 41) (qa_e rfl h) rfl (qa_T_le c4)
              replace h := qa_push (z := (0 : Int32)) (q := 42) (qa_e rfl h) rfl (by decide)
              exact ⟨lv, M, (qa_hi0 c4 h), hM, es, g0, g1, g2⟩
          exact ⟨lv, M, (qa_hi0 c3 h), hM, es, g0, g1, g2⟩
      exact ⟨lv, M, (qa_hi0 c2 h), hM, es, g0, g1, g2⟩
  obtain ⟨lv, h, g, T⟩ := qa_istore (n := 3) (q := 43) (qa_e rfl h) rfl
  replace g0 := T _ _ g0 (by decide) (Or.inr rfl)
  replace g1 := T _ _ g1 (by decide) (Or.inr rfl)
  replace g2 := T _ _ g2 (by decide) (Or.inr rfl)
  have g3 := g
  clear g T
  replace h := qa_iload (n := 3) (q := 44) (qa_e rfl h) rfl g3
  by_cases c5 : (if (ma_171_99 a1 m1) = (0 : Int32) then (-1 : Int32) else (if a2 < (-1 : Int32) then (-4 : Int32) else (if (6 : Int32) < (m1 99 0) then (-3 : Int32) else (0 : Int32)))) < (0 : Int32)
  · replace h := qa_icf (q := 47) (qa_e rfl h) rfl (qa_F_ge c5)
    replace h := qa_aload (n := 0) (q := 48) (qa_e rfl h) rfl g0
    replace h := qa_iload (n := 3) (q := 49) (qa_e rfl h) rfl g3
    obtain ⟨r6, er6⟩ : ∃ x, x = (ma_152_99 (if (ma_171_99 a1 m1) = (0 : Int32) then (-1 : Int32) else (if a2 < (-1 : Int32) then (-4 : Int32) else (if (6 : Int32) < (m1 99 0) then (-3 : Int32) else (0 : Int32)))) m1) := ⟨_, rfl⟩
    obtain ⟨M, h, hM, es⟩ := qa_c1 (y := 152) (as := [.ref 99, .int ((if (ma_171_99 a1 m1) = (0 : Int32) then (-1 : Int32) else (if a2 < (-1 : Int32) then (-4 : Int32) else (if (6 : Int32) < (m1 99 0) then (-3 : Int32) else (0 : Int32)))))]) (rest := []) (i := .invokevirtual 152) (q := 52) (qa_e rfl h) (Or.inl rfl) rfl rfl (by decide) rfl (fun r hc => mb_152_99 hM es hc)
    rw [← er6] at h es
    have er := qa_ri (qa_e rfl h)
    subst er
    have e0 : ma_212_99 N a1 a2 σ = (r6.1, r6.2) := by exact Eq.trans (qa_ie em1) (Eq.trans (if_pos c5) (Eq.trans (qa_ie er6) (rfl)))
    rw [e0]
    exact ⟨rfl, hM, es⟩
  · replace h := qa_ict (q := 53) (qa_e rfl h) rfl (qa_T_ge c5)
    replace h := qa_aload (n := 0) (q := 54) (qa_e rfl h) rfl g0
    obtain ⟨m7, em7⟩ : ∃ x, x = (ma_181_99 N m1) := ⟨_, rfl⟩
    obtain ⟨M, h, hM, es⟩ := qa_c0 (y := 181) (as := [.ref 99]) (rest := []) (i := .invokevirtual 181) (q := 57) (qa_e rfl h) (Or.inl rfl) rfl rfl (by decide) rfl (fun r hc => mb_181_99 hN hM es hc)
    rw [← em7] at es
    replace h := qa_push (z := (0 : Int32)) (q := 58) (qa_e rfl h) rfl (by decide)
    obtain ⟨lv, h, g, T⟩ := qa_istore (n := 4) (q := 60) (qa_e rfl h) rfl
    replace g0 := T _ _ g0 (by decide) (Or.inr rfl)
    replace g1 := T _ _ g1 (by decide) (Or.inr rfl)
    replace g2 := T _ _ g2 (by decide) (Or.inr rfl)
    have g4 := g
    clear g T
    replace h := qa_aload (n := 0) (q := 61) (qa_e rfl h) rfl g0
    replace h := qa_iload (n := 1) (q := 62) (qa_e rfl h) rfl g1
    replace h := qa_push (z := (0 : Int32)) (q := 63) (qa_e rfl h) rfl (by decide)
    obtain ⟨r8, er8⟩ : ∃ x, x = (ma_213_99 N a1 (0 : Int32) m7) := ⟨_, rfl⟩
    obtain ⟨M, h, hM, es⟩ := qa_c1 (y := 213) (as := [.ref 99, .int (a1), .int ((0 : Int32))]) (rest := []) (i := .invokevirtual 213) (q := 66) (qa_e rfl h) (Or.inl rfl) rfl rfl (by decide) rfl (fun r hc => mb_213_99 hN hM es hc)
    rw [← er8] at h es
    obtain ⟨lv, h, g, T⟩ := qa_istore (n := 5) (q := 68) (qa_e rfl h) rfl
    replace g0 := T _ _ g0 (by decide) (Or.inr rfl)
    replace g1 := T _ _ g1 (by decide) (Or.inr rfl)
    replace g2 := T _ _ g2 (by decide) (Or.inr rfl)
    replace g4 := T _ _ g4 (by decide) (Or.inr rfl)
    have g5 := g
    clear g T
    replace h := qa_aload (n := 0) (q := 69) (qa_e rfl h) rfl g0
    replace h := qa_gi (j := 0) (q := 72) (qa_e rfl h) rfl hM es rfl (by decide)
    obtain ⟨r9, er9⟩ : ∃ x, x = (ma_215 N (r8.2 99 0)) := ⟨_, rfl⟩
    obtain ⟨M, h, hM, es⟩ := qa_c1 (y := 215) (as := [.int ((r8.2 99 0))]) (rest := []) (i := .invokestatic 215) (q := 75) (qa_e rfl h) (Or.inr rfl) rfl rfl (by decide) rfl (fun r hc => mb_215 hN hM es hc)
    rw [← er9] at h
    obtain ⟨lv, h, g, T⟩ := qa_istore (n := 6) (q := 77) (qa_e rfl h) rfl
    replace g0 := T _ _ g0 (by decide) (Or.inr rfl)
    replace g1 := T _ _ g1 (by decide) (Or.inr rfl)
    replace g2 := T _ _ g2 (by decide) (Or.inr rfl)
    replace g4 := T _ _ g4 (by decide) (Or.inr rfl)
    replace g5 := T _ _ g5 (by decide) (Or.inr rfl)
    have g6 := g
    clear g T
    replace h := qa_push (z := (1 : Int32)) (q := 78) (qa_e rfl h) rfl (by decide)
    obtain ⟨lv, h, g, T⟩ := qa_istore (n := 7) (q := 80) (qa_e rfl h) rfl
    replace g0 := T _ _ g0 (by decide) (Or.inr rfl)
    replace g1 := T _ _ g1 (by decide) (Or.inr rfl)
    replace g2 := T _ _ g2 (by decide) (Or.inr rfl)
    replace g4 := T _ _ g4 (by decide) (Or.inr rfl)
    replace g5 := T _ _ g5 (by decide) (Or.inr rfl)
    replace g6 := T _ _ g6 (by decide) (Or.inr rfl)
    have g7 := g
    clear g T
    obtain ⟨r10, er10⟩ : ∃ x, x = (qa_wh (fun s => s) (mc_212_99_p80 N a1 a2 r9) N ((1 : Int32), (0 : Int32), r8.1, r8.2)) := ⟨_, rfl⟩
    have L := md_212_99_p80 (l1 := a1) (l2 := a2) (l6 := r9) (F := f) (N := N) (r := r) hN f N hN (Nat.le_refl f) ((1 : Int32), (0 : Int32), r8.1, r8.2) _ _ hM es g0 g1 g2 g4 g5 g6 g7 h
    rw [← er10] at L
    obtain ⟨lv, M, h, hM, es, g0, g2, g4, g5⟩ := L
    replace h := qa_iload (n := 2) (q := 135) (qa_e rfl h) rfl g2
    by_cases c11 : a2 < (0 : Int32)
    · replace h := qa_icf (q := 138) (qa_e rfl h) rfl (qa_F_ge c11)
      replace h := qa_iload (n := 5) (q := 140) (qa_e rfl h) rfl g5
      have er := qa_ri (qa_e rfl h)
      subst er
      have e0 : ma_212_99 N a1 a2 σ = (r10.2.2.1, r10.2.2.2) := by exact Eq.trans (qa_ie em1) (Eq.trans (if_neg c5) (Eq.trans (qa_ie em7) (Eq.trans (qa_ie er8) (Eq.trans (qa_ie er9) (Eq.trans (qa_ie er10) (Eq.trans (if_pos c11) (rfl)))))))
      rw [e0]
      exact ⟨rfl, hM, es⟩
    · replace h := qa_ict (q := 141) (qa_e rfl h) rfl (qa_T_ge c11)
      replace h := qa_aload (n := 0) (q := 142) (qa_e rfl h) rfl g0
      replace h := qa_iload (n := 4) (q := 144) (qa_e rfl h) rfl g4
      replace h := qa_aload (n := 0) (q := 145) (qa_e rfl h) rfl g0
      replace h := qa_gi (j := 0) (q := 148) (qa_e rfl h) rfl hM es rfl (by decide)
      obtain ⟨m12, em12⟩ : ∃ x, x = (ma_214_99 N r10.2.1 (r10.2.2.2 99 0) r10.2.2.2) := ⟨_, rfl⟩
      obtain ⟨M, h, hM, es⟩ := qa_c0 (y := 214) (as := [.ref 99, .int (r10.2.1), .int ((r10.2.2.2 99 0))]) (rest := []) (i := .invokevirtual 214) (q := 151) (qa_e rfl h) (Or.inl rfl) rfl rfl (by decide) rfl (fun r hc => mb_214_99 hN hM es hc)
      rw [← em12] at es
      replace h := qa_iload (n := 2) (q := 152) (qa_e rfl h) rfl g2
      replace h := qa_aload (n := 0) (q := 153) (qa_e rfl h) rfl g0
      replace h := qa_gi (j := 0) (q := 156) (qa_e rfl h) rfl hM es rfl (by decide)
      obtain ⟨lv, M, h, hM, es⟩ : ∃ lv M, q4_run f 212 170 lv [.int ((if a2 < (m12 99 0) then (m12 121 a2.toNatClampNeg) else (-9 : Int32)))] M 0 0 = some r ∧ qa_O M ∧ qa_s M = m12 := by
        by_cases c13 : a2 < (m12 99 0)
        · replace h := qa_iff (q := 159) (qa_e rfl h) rfl (qa_F_ge c13)
          replace h := qa_aload (n := 0) (q := 160) (qa_e rfl h) rfl g0
          replace h := qa_gr (b := 121) (j := 33) (q := 163) (qa_e rfl h) rfl hM rfl (by decide)
          replace h := qa_iload (n := 2) (q := 164) (qa_e rfl h) rfl g2
          replace h := qa_iaload (jn := a2.toNatClampNeg) (q := 165) (qa_e rfl h) rfl hM es rfl
          replace h := qa_goto (q := 170) (qa_e rfl h) rfl
          exact ⟨lv, M, (qa_hi1 c13 h), hM, es⟩
        · replace h := qa_ift (q := 168) (qa_e rfl h) rfl (qa_T_ge c13)
          replace h := qa_push (z := (-9 : Int32)) (q := 170) (qa_e rfl h) rfl (by decide)
          exact ⟨lv, M, (qa_hi0 c13 h), hM, es⟩
      have er := qa_ri (qa_e rfl h)
      subst er
      have e0 : ma_212_99 N a1 a2 σ = ((if a2 < (m12 99 0) then (m12 121 a2.toNatClampNeg) else (-9 : Int32)), m12) := by exact Eq.trans (qa_ie em1) (Eq.trans (if_neg c5) (Eq.trans (qa_ie em7) (Eq.trans (qa_ie er8) (Eq.trans (qa_ie er9) (Eq.trans (qa_ie er10) (Eq.trans (if_neg c11) (Eq.trans (qa_ie em12) (rfl))))))))
      rw [e0]
      exact ⟨rfl, hM, es⟩
/-- BuriedBySevensModel, tellOtherwise, ()I -/
noncomputable def ma_218_99 (N : Nat) (σ : qa_S) : Int32 × qa_S :=
  qa_in ((ma_183_99 N σ)) fun m1 =>
  qa_in ((ma_197_99 N m1)) fun r2 =>
  qa_in ((ma_208 N r2)) fun r3 =>
  (((m1 99 5) - r3), m1)
theorem mb_218_99 {f N : Nat} (hN : f ≤ N) {M : q4_M} {r : Option Value × q4_M} {σ : qa_S} (hM : qa_O M) (es : qa_s M = σ) (h : q4_run f 218 0 (lv_args 0 [.ref 99]) [] M 0 0 = some r) : r.1 = some (.int ((ma_218_99 N σ).1)) ∧ qa_O r.2 ∧ qa_s r.2 = (ma_218_99 N σ).2 := by
  obtain ⟨lv, el⟩ : ∃ l, l = lv_args 0 [.ref 99] := ⟨_, rfl⟩
  have g0 : q4_get lv 0 = some (.ref 99) := by rw [el]; rfl
  rw [← el] at h
  clear el
  replace h := qa_aload (n := 0) (q := 1) (qa_e rfl h) rfl g0
  obtain ⟨m1, em1⟩ : ∃ x, x = (ma_183_99 N σ) := ⟨_, rfl⟩
  obtain ⟨M, h, hM, es⟩ := qa_c0 (y := 183) (as := [.ref 99]) (rest := []) (i := .invokevirtual 183) (q := 4) (qa_e rfl h) (Or.inl rfl) rfl rfl (by decide) rfl (fun r hc => mb_183_99 hN hM es hc)
  rw [← em1] at es
  replace h := qa_aload (n := 0) (q := 5) (qa_e rfl h) rfl g0
  replace h := qa_gi (j := 5) (q := 8) (qa_e rfl h) rfl hM es rfl (by decide)
  replace h := qa_aload (n := 0) (q := 9) (qa_e rfl h) rfl g0
  obtain ⟨r2, er2⟩ : ∃ x, x = (ma_197_99 N m1) := ⟨_, rfl⟩
  obtain ⟨M, h, hM, es⟩ := qa_c1 (y := 197) (as := [.ref 99]) (rest := [.int ((m1 99 5))]) (i := .invokevirtual 197) (q := 12) (qa_e rfl h) (Or.inl rfl) rfl rfl (by decide) rfl (fun r hc => mb_197_99 hN hM es hc)
  rw [← er2] at h
  obtain ⟨r3, er3⟩ : ∃ x, x = (ma_208 N r2) := ⟨_, rfl⟩
  obtain ⟨M, h, hM, es⟩ := qa_c1 (y := 208) (as := [.int (r2)]) (rest := [.int ((m1 99 5))]) (i := .invokestatic 208) (q := 15) (qa_e rfl h) (Or.inr rfl) rfl rfl (by decide) rfl (fun r hc => mb_208 hN hM es hc)
  rw [← er3] at h
  replace h := qa_isub (q := 16) (qa_e rfl h) rfl
  have er := qa_ri (qa_e rfl h)
  subst er
  have e0 : ma_218_99 N σ = (((m1 99 5) - r3), m1) := by exact Eq.trans (qa_ie em1) (Eq.trans (qa_ie er2) (Eq.trans (qa_ie er3) (rfl)))
  rw [e0]
  exact ⟨rfl, hM, es⟩
noncomputable def mc_217_99_p35 (N : Nat) (l1 : Int32) (s : Int32 × Int32 × Int32 × qa_S) : (Int32 × Int32 × Int32 × qa_S) ⊕ (Int32 × Int32 × Int32 × qa_S) :=
  if s.1 < (s.2.2.2 99 0) then
    qa_in (qa_u s.2.2.2 110 s.1.toNatClampNeg (0 : Int32)) fun m3 =>
    qa_in ((ma_218_99 N m3)) fun r4 =>
    qa_in (qa_u r4.2 110 s.1.toNatClampNeg (r4.2 103 s.1.toNatClampNeg)) fun m5 =>
    qa_in ((if (0 : Int32) < (s.2.2.2 103 s.1.toNatClampNeg) then m5 else s.2.2.2)) fun m10 =>
    .inl ((s.1 + (1 : Int32)), (if (0 : Int32) < (s.2.2.2 103 s.1.toNatClampNeg) then (if (if s.2.1 < (0 : Int32) then (1 : Int32) else (if r4.1 < s.2.2.1 then (1 : Int32) else (0 : Int32))) = (0 : Int32) then s.2.1 else s.1) else s.2.1), (if (0 : Int32) < (s.2.2.2 103 s.1.toNatClampNeg) then (if (if s.2.1 < (0 : Int32) then (1 : Int32) else (if r4.1 < s.2.2.1 then (1 : Int32) else (0 : Int32))) = (0 : Int32) then s.2.2.1 else r4.1) else s.2.2.1), m10)
  else
    .inr (s.1, s.2.1, s.2.2.1, s.2.2.2)
theorem md_217_99_p35 {N F : Nat} {r : Option Value × q4_M} {l1 : Int32} (hN : F ≤ N) : ∀ f n, f ≤ n → f ≤ F → ∀ (s : Int32 × Int32 × Int32 × qa_S) (lv : List (Nat × Value)) (M : q4_M), qa_O M → qa_s M = s.2.2.2 → q4_get lv 0 = some (.ref 99) → q4_get lv 1 = some (.int (l1)) → q4_get lv 2 = some (.int (s.2.1)) → q4_get lv 3 = some (.int (s.2.2.1)) → q4_get lv 4 = some (.int (s.1)) → q4_run f 217 35 lv [] M 0 0 = some r → ∃ lv M, q4_run F 217 129 lv [] M 0 0 = some r ∧ qa_O M ∧ qa_s M = (qa_wh (fun s => s) (mc_217_99_p35 N l1) n s).2.2.2 ∧ q4_get lv 1 = some (.int (l1)) ∧ q4_get lv 2 = some (.int ((qa_wh (fun s => s) (mc_217_99_p35 N l1) n s).2.1)) ∧ q4_get lv 3 = some (.int ((qa_wh (fun s => s) (mc_217_99_p35 N l1) n s).2.2.1)) := by
  intro f
  induction f with
  | zero => intro n _ _ s lv M hM es _ _ _ _ _ h; cases h
  | succ f ih =>
    intro n hn hF s lv M hM es g0 g1 g2 g3 g4 h
    obtain ⟨n, rfl⟩ : ∃ n1, n = n1 + 1 := ⟨n - 1, by omega⟩
    replace hn : f ≤ n := Nat.le_of_succ_le_succ hn
    have hN := Nat.le_trans (Nat.le_of_succ_le hF) hN
    replace h := qa_iload (n := 4) (q := 37) (qa_d rfl h) rfl g4
    replace h := qa_aload (n := 0) (q := 38) (qa_e rfl h) rfl g0
    replace h := qa_gi (j := 0) (q := 41) (qa_e rfl h) rfl hM es rfl (by decide)
    by_cases c1 : s.1 < (s.2.2.2 99 0)
    · replace h := qa_iff (q := 44) (qa_e rfl h) rfl (qa_F_ge c1)
      replace h := qa_aload (n := 0) (q := 45) (qa_e rfl h) rfl g0
      replace h := qa_gr (b := 103) (j := 4) (q := 48) (qa_e rfl h) rfl hM rfl (by decide)
      replace h := qa_iload (n := 4) (q := 50) (qa_e rfl h) rfl g4
      replace h := qa_iaload (jn := s.1.toNatClampNeg) (q := 51) (qa_e rfl h) rfl hM es rfl
      obtain ⟨m3, em3⟩ : ∃ x, x = qa_u s.2.2.2 110 s.1.toNatClampNeg (0 : Int32) := ⟨_, rfl⟩
      obtain ⟨r4, er4⟩ : ∃ x, x = (ma_218_99 N m3) := ⟨_, rfl⟩
      obtain ⟨m5, em5⟩ : ∃ x, x = qa_u r4.2 110 s.1.toNatClampNeg (r4.2 103 s.1.toNatClampNeg) := ⟨_, rfl⟩
      obtain ⟨m10, em10⟩ : ∃ x, x = (if (0 : Int32) < (s.2.2.2 103 s.1.toNatClampNeg) then m5 else s.2.2.2) := ⟨_, rfl⟩
      obtain ⟨lv, M, h, hM, es, g0, g1, g2, g3, g4⟩ : ∃ lv M, q4_run f 217 123 lv [] M 0 0 = some r ∧ qa_O M ∧ qa_s M = m10 ∧ q4_get lv 0 = some (.ref 99) ∧ q4_get lv 1 = some (.int (l1)) ∧ q4_get lv 2 = some (.int ((if (0 : Int32) < (s.2.2.2 103 s.1.toNatClampNeg) then (if (if s.2.1 < (0 : Int32) then (1 : Int32) else (if r4.1 < s.2.2.1 then (1 : Int32) else (0 : Int32))) = (0 : Int32) then s.2.1 else s.1) else s.2.1))) ∧ q4_get lv 3 = some (.int ((if (0 : Int32) < (s.2.2.2 103 s.1.toNatClampNeg) then (if (if s.2.1 < (0 : Int32) then (1 : Int32) else (if r4.1 < s.2.2.1 then (1 : Int32) else (0 : Int32))) = (0 : Int32) then s.2.2.1 else r4.1) else s.2.2.1))) ∧ q4_get lv 4 = some (.int (s.1)) := by
        by_cases c2 : (0 : Int32) < (s.2.2.2 103 s.1.toNatClampNeg)
        · replace h := qa_icf (q := 54) (qa_e rfl h) rfl (qa_F_le c2)
          replace h := qa_aload (n := 0) (q := 55) (qa_e rfl h) rfl g0
          replace h := qa_gr (b := 110) (j := 13) (q := 58) (qa_e rfl h) rfl hM rfl (by decide)
          replace h := qa_iload (n := 4) (q := 60) (qa_e rfl h) rfl g4
          replace h := qa_push (z := (0 : Int32)) (q := 61) (qa_e rfl h) rfl (by decide)
          obtain ⟨M, h, hM, es⟩ := qa_iastore (jn := s.1.toNatClampNeg) (q := 62) (qa_e rfl h) rfl hM es rfl
          rw [← em3] at es
          replace h := qa_aload (n := 0) (q := 63) (qa_e rfl h) rfl g0
          obtain ⟨M, h, hM, es⟩ := qa_c1 (y := 218) (as := [.ref 99]) (rest := []) (i := .invokevirtual 218) (q := 66) (qa_e rfl h) (Or.inl rfl) rfl rfl (by decide) rfl (fun r hc => mb_218_99 hN hM es hc)
          rw [← er4] at h es
          obtain ⟨lv, h, g, T⟩ := qa_istore (n := 5) (q := 68) (qa_e rfl h) rfl
          replace g0 := T _ _ g0 (by decide) (Or.inr rfl)
          replace g1 := T _ _ g1 (by decide) (Or.inr rfl)
          replace g2 := T _ _ g2 (by decide) (Or.inr rfl)
          replace g3 := T _ _ g3 (by decide) (Or.inr rfl)
          replace g4 := T _ _ g4 (by decide) (Or.inr rfl)
          have g5 := g
          clear g T
          replace h := qa_aload (n := 0) (q := 69) (qa_e rfl h) rfl g0
          replace h := qa_gr (b := 110) (j := 13) (q := 72) (qa_e rfl h) rfl hM rfl (by decide)
          replace h := qa_iload (n := 4) (q := 74) (qa_e rfl h) rfl g4
          replace h := qa_aload (n := 0) (q := 75) (qa_e rfl h) rfl g0
          replace h := qa_gr (b := 103) (j := 4) (q := 78) (qa_e rfl h) rfl hM rfl (by decide)
          replace h := qa_iload (n := 4) (q := 80) (qa_e rfl h) rfl g4
          replace h := qa_iaload (jn := s.1.toNatClampNeg) (q := 81) (qa_e rfl h) rfl hM es rfl
          obtain ⟨M, h, hM, es⟩ := qa_iastore (jn := s.1.toNatClampNeg) (q := 82) (qa_e rfl h) rfl hM es rfl
          rw [← em5] at es
          replace h := qa_iload (n := 2) (q := 83) (qa_e rfl h) rfl g2
          obtain ⟨lv, M, h, hM, es, g0, g1, g2, g3, g4, g5⟩ : ∃ lv M, q4_run f 217 97 lv [.int ((if s.2.1 < (0 : Int32) then (1 : Int32) else (if r4.1 < s.2.2.1 then (1 : Int32) else (0 : Int32))))] M 0 0 = some r ∧ qa_O M ∧ qa_s M = m5 ∧ q4_get lv 0 = some (.ref 99) ∧ q4_get lv 1 = some (.int (l1)) ∧ q4_get lv 2 = some (.int (s.2.1)) ∧ q4_get lv 3 = some (.int (s.2.2.1)) ∧ q4_get lv 4 = some (.int (s.1)) ∧ q4_get lv 5 = some (.int (r4.1)) := by
            by_cases c6 : s.2.1 < (0 : Int32)
            · replace h := qa_ict (q := 92) (qa_e rfl h) rfl (qa_T_lt c6)
              replace h := qa_push (z := (1 : Int32)) (q := 93) (qa_e rfl h) rfl (by decide)
              replace h := qa_goto (q := 97) (qa_e rfl h) rfl
              exact ⟨lv, M, (qa_hi1 c6 h), hM, es, g0, g1, g2, g3, g4, g5⟩
            · replace h := qa_icf (q := 86) (qa_e rfl h) rfl (qa_F_lt c6)
              replace h := qa_iload (n := 5) (q := 88) (qa_e rfl h) rfl g5
              replace h := qa_iload (n := 3) (q := 89) (qa_e rfl h) rfl g3
              obtain ⟨lv, M, h, hM, es, g0, g1, g2, g3, g4, g5⟩ : ∃ lv M, q4_run f 217 97 lv [.int ((if r4.1 < s.2.2.1 then (1 : Int32) else (0 : Int32)))] M 0 0 = some r ∧ qa_O M ∧ qa_s M = m5 ∧ q4_get lv 0 = some (.ref 99) ∧ q4_get lv 1 = some (.int (l1)) ∧ q4_get lv 2 = some (.int (s.2.1)) ∧ q4_get lv 3 = some (.int (s.2.2.1)) ∧ q4_get lv 4 = some (.int (s.1)) ∧ q4_get lv 5 = some (.int (r4.1)) := by
                by_cases c7 : r4.1 < s.2.2.1
                · replace h := qa_iff (q := 92) (qa_e rfl h) rfl (qa_F_ge c7)
                  replace h := qa_push (z := (1 : Int32)) (q := 93) (qa_e rfl h) rfl (by decide)
                  replace h := qa_goto (q := 97) (qa_e rfl h) rfl
                  exact ⟨lv, M, (qa_hi1 c7 h), hM, es, g0, g1, g2, g3, g4, g5⟩
                · replace h := qa_ift (q := 96) (qa_e rfl h) rfl (qa_T_ge c7)
                  replace h := qa_push (z := (0 : Int32)) (q := 97) (qa_e rfl h) rfl (by decide)
                  exact ⟨lv, M, (qa_hi0 c7 h), hM, es, g0, g1, g2, g3, g4, g5⟩
              exact ⟨lv, M, (qa_hi0 c6 h), hM, es, g0, g1, g2, g3, g4, g5⟩
          obtain ⟨lv, h, g, T⟩ := qa_istore (n := 6) (q := 99) (qa_e rfl h) rfl
          replace g0 := T _ _ g0 (by decide) (Or.inr rfl)
          replace g1 := T _ _ g1 (by decide) (Or.inr rfl)
          replace g2 := T _ _ g2 (by decide) (Or.inr rfl)
          replace g3 := T _ _ g3 (by decide) (Or.inr rfl)
          replace g4 := T _ _ g4 (by decide) (Or.inr rfl)
          replace g5 := T _ _ g5 (by decide) (Or.inr rfl)
          have g6 := g
          clear g T
          replace h := qa_iload (n := 6) (q := 101) (qa_e rfl h) rfl g6
          obtain ⟨lv, M, h, hM, es, g0, g1, g3, g4, g5, g6⟩ : ∃ lv M, q4_run f 217 110 lv [.int ((if (if s.2.1 < (0 : Int32) then (1 : Int32) else (if r4.1 < s.2.2.1 then (1 : Int32) else (0 : Int32))) = (0 : Int32) then s.2.1 else s.1))] M 0 0 = some r ∧ qa_O M ∧ qa_s M = m5 ∧ q4_get lv 0 = some (.ref 99) ∧ q4_get lv 1 = some (.int (l1)) ∧ q4_get lv 3 = some (.int (s.2.2.1)) ∧ q4_get lv 4 = some (.int (s.1)) ∧ q4_get lv 5 = some (.int (r4.1)) ∧ q4_get lv 6 = some (.int ((if s.2.1 < (0 : Int32) then (1 : Int32) else (if r4.1 < s.2.2.1 then (1 : Int32) else (0 : Int32))))) := by
            by_cases c8 : (if s.2.1 < (0 : Int32) then (1 : Int32) else (if r4.1 < s.2.2.1 then (1 : Int32) else (0 : Int32))) = (0 : Int32)
            · replace h := qa_ict (q := 109) (qa_e rfl h) rfl (qa_T_eq c8)
              replace h := qa_iload (n := 2) (q := 110) (qa_e rfl h) rfl g2
              exact ⟨lv, M, (qa_hi1 c8 h), hM, es, g0, g1, g3, g4, g5, g6⟩
            · replace h := qa_icf (q := 104) (qa_e rfl h) rfl (qa_F_eq c8)
              replace h := qa_iload (n := 4) (q := 106) (qa_e rfl h) rfl g4
              replace h := qa_goto (q := 110) (qa_e rfl h) rfl
              exact ⟨lv, M, (qa_hi0 c8 h), hM, es, g0, g1, g3, g4, g5, g6⟩
          obtain ⟨lv, h, g, T⟩ := qa_istore (n := 2) (q := 111) (qa_e rfl h) rfl
          replace g0 := T _ _ g0 (by decide) (Or.inr rfl)
          replace g1 := T _ _ g1 (by decide) (Or.inr rfl)
          replace g3 := T _ _ g3 (by decide) (Or.inr rfl)
          replace g4 := T _ _ g4 (by decide) (Or.inr rfl)
          replace g5 := T _ _ g5 (by decide) (Or.inr rfl)
          replace g6 := T _ _ g6 (by decide) (Or.inr rfl)
          have g2 := g
          clear g T
          replace h := qa_iload (n := 6) (q := 113) (qa_e rfl h) rfl g6
          obtain ⟨lv, M, h, hM, es, g0, g1, g2, g4⟩ : ∃ lv M, q4_run f 217 122 lv [.int ((if (if s.2.1 < (0 : Int32) then (1 : Int32) else (if r4.1 < s.2.2.1 then (1 : Int32) else (0 : Int32))) = (0 : Int32) then s.2.2.1 else r4.1))] M 0 0 = some r ∧ qa_O M ∧ qa_s M = m5 ∧ q4_get lv 0 = some (.ref 99) ∧ q4_get lv 1 = some (.int (l1)) ∧ q4_get lv 2 = some (.int ((if (if s.2.1 < (0 : Int32) then (1 : Int32) else (if r4.1 < s.2.2.1 then (1 : Int32) else (0 : Int32))) = (0 : Int32) then s.2.1 else s.1))) ∧ q4_get lv 4 = some (.int (s.1)) := by
            by_cases c9 : (if s.2.1 < (0 : Int32) then (1 : Int32) else (if r4.1 < s.2.2.1 then (1 : Int32) else (0 : Int32))) = (0 : Int32)
            · replace h := qa_ict (q := 121) (qa_e rfl h) rfl (qa_T_eq c9)
              replace h := qa_iload (n := 3) (q := 122) (qa_e rfl h) rfl g3
              exact ⟨lv, M, (qa_hi1 c9 h), hM, es, g0, g1, g2, g4⟩
            · replace h := qa_icf (q := 116) (qa_e rfl h) rfl (qa_F_eq c9)
              replace h := qa_iload (n := 5) (q := 118) (qa_e rfl h) rfl g5
              replace h := qa_goto (q := 122) (qa_e rfl h) rfl
              exact ⟨lv, M, (qa_hi0 c9 h), hM, es, g0, g1, g2, g4⟩
          obtain ⟨lv, h, g, T⟩ := qa_istore (n := 3) (q := 123) (qa_e rfl h) rfl
          replace g0 := T _ _ g0 (by decide) (Or.inr rfl)
          replace g1 := T _ _ g1 (by decide) (Or.inr rfl)
          replace g2 := T _ _ g2 (by decide) (Or.inr rfl)
          replace g4 := T _ _ g4 (by decide) (Or.inr rfl)
          have g3 := g
          clear g T
          exact ⟨lv, M, h, hM, ((qa_ms1 c2 es).trans em10.symm), g0, g1, (qa_gi1 c2 g2), (qa_gi1 c2 g3), g4⟩
        · replace h := qa_ict (q := 123) (qa_e rfl h) rfl (qa_T_le c2)
          exact ⟨lv, M, h, hM, ((qa_ms0 c2 es).trans em10.symm), g0, g1, (qa_gi0 c2 g2), (qa_gi0 c2 g3), g4⟩
      obtain ⟨lv, h, g, T⟩ := qa_iinc (n := 4) (z := (1 : Int32)) (q := 126) (qa_e rfl h) rfl (by decide) g4
      replace g0 := T _ _ g0 (by decide) (Or.inr rfl)
      replace g1 := T _ _ g1 (by decide) (Or.inr rfl)
      replace g2 := T _ _ g2 (by decide) (Or.inr rfl)
      replace g3 := T _ _ g3 (by decide) (Or.inr rfl)
      replace g4 := g
      clear g T
      replace h := qa_goto (q := 35) (qa_e rfl h) rfl
      have e0 : mc_217_99_p35 N l1 s = .inl ((s.1 + (1 : Int32)), (if (0 : Int32) < (s.2.2.2 103 s.1.toNatClampNeg) then (if (if s.2.1 < (0 : Int32) then (1 : Int32) else (if r4.1 < s.2.2.1 then (1 : Int32) else (0 : Int32))) = (0 : Int32) then s.2.1 else s.1) else s.2.1), (if (0 : Int32) < (s.2.2.2 103 s.1.toNatClampNeg) then (if (if s.2.1 < (0 : Int32) then (1 : Int32) else (if r4.1 < s.2.2.1 then (1 : Int32) else (0 : Int32))) = (0 : Int32) then s.2.2.1 else r4.1) else s.2.2.1), m10) := by exact Eq.trans (if_pos c1) (Eq.trans (qa_ie em3) (Eq.trans (qa_ie er4) (Eq.trans (qa_ie em5) (Eq.trans (qa_ie em10) (rfl)))))
      rw [qa_whl e0]
      exact ih n hn (Nat.le_of_succ_le hF) ((s.1 + (1 : Int32)), (if (0 : Int32) < (s.2.2.2 103 s.1.toNatClampNeg) then (if (if s.2.1 < (0 : Int32) then (1 : Int32) else (if r4.1 < s.2.2.1 then (1 : Int32) else (0 : Int32))) = (0 : Int32) then s.2.1 else s.1) else s.2.1), (if (0 : Int32) < (s.2.2.2 103 s.1.toNatClampNeg) then (if (if s.2.1 < (0 : Int32) then (1 : Int32) else (if r4.1 < s.2.2.1 then (1 : Int32) else (0 : Int32))) = (0 : Int32) then s.2.2.1 else r4.1) else s.2.2.1), m10) _ _ hM es g0 g1 g2 g3 g4 h
    · replace h := qa_ift (q := 129) (qa_e rfl h) rfl (qa_T_ge c1)
      have e0 : mc_217_99_p35 N l1 s = .inr (s.1, s.2.1, s.2.2.1, s.2.2.2) := by exact Eq.trans (if_neg c1) (rfl)
      rw [qa_whr e0]
      exact ⟨_, _, q61_mono f F _ _ _ _ _ _ _ _ (Nat.le_of_succ_le hF) h, hM, es, g1, g2, g3⟩
/-- BuriedBySevensModel, gone, (I)I -/
noncomputable def ma_217_99 (N : Nat) (a1 : Int32) (σ : qa_S) : Int32 × qa_S :=
  qa_in (qa_u σ 99 9 (0 : Int32)) fun m1 =>
  if (ma_158 (a1).toInt64 (0 : Int64) (1 : Int64)) = (0 : Int32) then
    qa_in ((ma_152_99 (-2 : Int32) m1)) fun r3 =>
    (r3.1, r3.2)
  else
    qa_in ((ma_180_99 N m1)) fun m4 =>
    qa_in ((qa_wh (fun s => s) (mc_217_99_p35 N a1) N ((0 : Int32), (-9 : Int32), (-9 : Int32), m4))) fun r5 =>
    ((if a1 = (0 : Int32) then r5.2.1 else r5.2.2.1), r5.2.2.2)
theorem mb_217_99 {f N : Nat} (hN : f ≤ N) {M : q4_M} {r : Option Value × q4_M} {σ : qa_S} {a1 : Int32} (hM : qa_O M) (es : qa_s M = σ) (h : q4_run f 217 0 (lv_args 0 [.ref 99, .int (a1)]) [] M 0 0 = some r) : r.1 = some (.int ((ma_217_99 N a1 σ).1)) ∧ qa_O r.2 ∧ qa_s r.2 = (ma_217_99 N a1 σ).2 := by
  obtain ⟨lv, el⟩ : ∃ l, l = lv_args 0 [.ref 99, .int (a1)] := ⟨_, rfl⟩
  have g0 : q4_get lv 0 = some (.ref 99) := by rw [el]; rfl
  have g1 : q4_get lv 1 = some (.int (a1)) := by rw [el]; rfl
  rw [← el] at h
  clear el
  replace h := qa_aload (n := 0) (q := 1) (qa_e rfl h) rfl g0
  replace h := qa_push (z := (0 : Int32)) (q := 2) (qa_e rfl h) rfl (by decide)
  obtain ⟨m1, em1⟩ : ∃ x, x = qa_u σ 99 9 (0 : Int32) := ⟨_, rfl⟩
  obtain ⟨M, h, hM, es⟩ := qa_pf (j := 9) (q := 5) (qa_e rfl h) rfl hM es rfl (by decide)
  rw [← em1] at es
  replace h := qa_iload (n := 1) (q := 6) (qa_e rfl h) rfl g1
  replace h := qa_i2l (q := 7) (qa_e rfl h) rfl
  replace h := qa_lpush (z := (0 : Int64)) (q := 8) (qa_e rfl h) rfl (by decide)
  replace h := qa_lpush (z := (1 : Int64)) (q := 9) (qa_e rfl h) rfl (by decide)
  obtain ⟨M, h, hM, es⟩ := qa_c1 (y := 158) (as := [.long ((a1).toInt64), .long ((0 : Int64)), .long ((1 : Int64))]) (rest := []) (i := .invokestatic 158) (q := 12) (qa_e rfl h) (Or.inr rfl) rfl rfl (by decide) rfl (fun r hc => mb_158 hM es hc)
  by_cases c2 : (ma_158 (a1).toInt64 (0 : Int64) (1 : Int64)) = (0 : Int32)
  · replace h := qa_icf (q := 15) (qa_e rfl h) rfl (qa_F_ne c2)
    replace h := qa_aload (n := 0) (q := 16) (qa_e rfl h) rfl g0
    replace h := qa_push (z := (-2 : Int32)) (q := 18) (qa_e rfl h) rfl (by decide)
    obtain ⟨r3, er3⟩ : ∃ x, x = (ma_152_99 (-2 : Int32) m1) := ⟨_, rfl⟩
    obtain ⟨M, h, hM, es⟩ := qa_c1 (y := 152) (as := [.ref 99, .int ((-2 : Int32))]) (rest := []) (i := .invokevirtual 152) (q := 21) (qa_e rfl h) (Or.inl rfl) rfl rfl (by decide) rfl (fun r hc => mb_152_99 hM es hc)
    rw [← er3] at h es
    have er := qa_ri (qa_e rfl h)
    subst er
    have e0 : ma_217_99 N a1 σ = (r3.1, r3.2) := by exact Eq.trans (qa_ie em1) (Eq.trans (if_pos c2) (Eq.trans (qa_ie er3) (rfl)))
    rw [e0]
    exact ⟨rfl, hM, es⟩
  · replace h := qa_ict (q := 22) (qa_e rfl h) rfl (qa_T_ne c2)
    replace h := qa_aload (n := 0) (q := 23) (qa_e rfl h) rfl g0
    obtain ⟨m4, em4⟩ : ∃ x, x = (ma_180_99 N m1) := ⟨_, rfl⟩
    obtain ⟨M, h, hM, es⟩ := qa_c0 (y := 180) (as := [.ref 99]) (rest := []) (i := .invokevirtual 180) (q := 26) (qa_e rfl h) (Or.inl rfl) rfl rfl (by decide) rfl (fun r hc => mb_180_99 hN hM es hc)
    rw [← em4] at es
    replace h := qa_push (z := (-9 : Int32)) (q := 28) (qa_e rfl h) rfl (by decide)
    obtain ⟨lv, h, g, T⟩ := qa_istore (n := 2) (q := 29) (qa_e rfl h) rfl
    replace g0 := T _ _ g0 (by decide) (Or.inr rfl)
    replace g1 := T _ _ g1 (by decide) (Or.inr rfl)
    have g2 := g
    clear g T
    replace h := qa_push (z := (-9 : Int32)) (q := 31) (qa_e rfl h) rfl (by decide)
    obtain ⟨lv, h, g, T⟩ := qa_istore (n := 3) (q := 32) (qa_e rfl h) rfl
    replace g0 := T _ _ g0 (by decide) (Or.inr rfl)
    replace g1 := T _ _ g1 (by decide) (Or.inr rfl)
    replace g2 := T _ _ g2 (by decide) (Or.inr rfl)
    have g3 := g
    clear g T
    replace h := qa_push (z := (0 : Int32)) (q := 33) (qa_e rfl h) rfl (by decide)
    obtain ⟨lv, h, g, T⟩ := qa_istore (n := 4) (q := 35) (qa_e rfl h) rfl
    replace g0 := T _ _ g0 (by decide) (Or.inr rfl)
    replace g1 := T _ _ g1 (by decide) (Or.inr rfl)
    replace g2 := T _ _ g2 (by decide) (Or.inr rfl)
    replace g3 := T _ _ g3 (by decide) (Or.inr rfl)
    have g4 := g
    clear g T
    obtain ⟨r5, er5⟩ : ∃ x, x = (qa_wh (fun s => s) (mc_217_99_p35 N a1) N ((0 : Int32), (-9 : Int32), (-9 : Int32), m4)) := ⟨_, rfl⟩
    have L := md_217_99_p35 (l1 := a1) (F := f) (N := N) (r := r) hN f N hN (Nat.le_refl f) ((0 : Int32), (-9 : Int32), (-9 : Int32), m4) _ _ hM es g0 g1 g2 g3 g4 h
    rw [← er5] at L
    obtain ⟨lv, M, h, hM, es, g1, g2, g3⟩ := L
    replace h := qa_iload (n := 1) (q := 130) (qa_e rfl h) rfl g1
    obtain ⟨lv, M, h, hM, es⟩ : ∃ lv M, q4_run f 217 138 lv [.int ((if a1 = (0 : Int32) then r5.2.1 else r5.2.2.1))] M 0 0 = some r ∧ qa_O M ∧ qa_s M = r5.2.2.2 := by
      by_cases c6 : a1 = (0 : Int32)
      · replace h := qa_icf (q := 133) (qa_e rfl h) rfl (qa_F_ne c6)
        replace h := qa_iload (n := 2) (q := 134) (qa_e rfl h) rfl g2
        replace h := qa_goto (q := 138) (qa_e rfl h) rfl
        exact ⟨lv, M, (qa_hi1 c6 h), hM, es⟩
      · replace h := qa_ict (q := 137) (qa_e rfl h) rfl (qa_T_ne c6)
        replace h := qa_iload (n := 3) (q := 138) (qa_e rfl h) rfl g3
        exact ⟨lv, M, (qa_hi0 c6 h), hM, es⟩
    have er := qa_ri (qa_e rfl h)
    subst er
    have e0 : ma_217_99 N a1 σ = ((if a1 = (0 : Int32) then r5.2.1 else r5.2.2.1), r5.2.2.2) := by exact Eq.trans (qa_ie em1) (Eq.trans (if_neg c2) (Eq.trans (qa_ie em4) (Eq.trans (qa_ie er5) (rfl))))
    rw [e0]
    exact ⟨rfl, hM, es⟩
