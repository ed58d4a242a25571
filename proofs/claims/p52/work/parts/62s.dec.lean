noncomputable def mc_245_99_p49 (N : Nat) (l1 : Int32) (l2 : Int32) (l3 : Int32) (l4 : Int32) (σ : qa_S) (s : Int32 × Int32) : (Int32 × Int32) ⊕ (Int32 × Int32) :=
  if s.1 < (σ 99 0) then
    qa_in ((qa_wh (fun s => s) (mc_245_99_p61 N l1 l2 l3 l4 s.1 σ) N ((0 : Int32), s.2))) fun r2 =>
    .inl ((s.1 + (1 : Int32)), r2.2)
  else
    .inr (s.1, s.2)
theorem md_245_99_p49 {N F : Nat} {r : Option Value × q4_M} {l1 : Int32} {l2 : Int32} {l3 : Int32} {l4 : Int32} {σ : qa_S} (hN : F ≤ N) : ∀ f n, f ≤ n → f ≤ F → ∀ (s : Int32 × Int32) (lv : List (Nat × Value)) (M : q4_M), qa_O M → qa_s M = σ → q4_get lv 0 = some (.ref 99) → q4_get lv 1 = some (.int (l1)) → q4_get lv 2 = some (.int (l2)) → q4_get lv 3 = some (.int (l3)) → q4_get lv 4 = some (.int (l4)) → q4_get lv 5 = some (.int (s.2)) → q4_get lv 6 = some (.int (s.1)) → q4_run f 245 49 lv [] M 0 0 = some r → ∃ lv M, q4_run F 245 112 lv [] M 0 0 = some r ∧ qa_O M ∧ qa_s M = σ ∧ q4_get lv 0 = some (.ref 99) ∧ q4_get lv 1 = some (.int (l1)) ∧ q4_get lv 2 = some (.int (l2)) ∧ q4_get lv 3 = some (.int (l3)) ∧ q4_get lv 4 = some (.int (l4)) ∧ q4_get lv 5 = some (.int ((qa_wh (fun s => s) (mc_245_99_p49 N l1 l2 l3 l4 σ) n s).2)) := by
  intro f
  induction f with
  | zero => intro n _ _ s lv M hM es _ _ _ _ _ _ _ h; cases h
  | succ f ih =>
    intro n hn hF s lv M hM es g0 g1 g2 g3 g4 g5 g6 h
    obtain ⟨n, rfl⟩ : ∃ n1, n = n1 + 1 := ⟨n - 1, by omega⟩
    replace hn : f ≤ n := Nat.le_of_succ_le_succ hn
    have hN := Nat.le_trans (Nat.le_of_succ_le hF) hN
    replace h := qa_iload (n := 6) (q := 51) (qa_d rfl h) rfl g6
    replace h := qa_aload (n := 0) (q := 52) (qa_e rfl h) rfl g0
    replace h := qa_gi (j := 0) (q := 55) (qa_e rfl h) rfl hM es rfl (by decide)
    by_cases c1 : s.1 < (σ 99 0)
    · replace h := qa_iff (q := 58) (qa_e rfl h) rfl (qa_F_ge c1)
      replace h := qa_push (z := (0 : Int32)) (q := 59) (qa_e rfl h) rfl (by decide)
      obtain ⟨lv, h, g, T⟩ := qa_istore (n := 7) (q := 61) (qa_e rfl h) rfl
      replace g0 := T _ _ g0 (by decide) (Or.inr rfl)
      replace g1 := T _ _ g1 (by decide) (Or.inr rfl)
      replace g2 := T _ _ g2 (by decide) (Or.inr rfl)
      replace g3 := T _ _ g3 (by decide) (Or.inr rfl)
      replace g4 := T _ _ g4 (by decide) (Or.inr rfl)
      replace g5 := T _ _ g5 (by decide) (Or.inr rfl)
      replace g6 := T _ _ g6 (by decide) (Or.inr rfl)
      have g7 := g
      clear g T
      obtain ⟨r2, er2⟩ : ∃ x, x = (qa_wh (fun s => s) (mc_245_99_p61 N l1 l2 l3 l4 s.1 σ) N ((0 : Int32), s.2)) := ⟨_, rfl⟩
      have L := md_245_99_p61 (l1 := l1) (l2 := l2) (l3 := l3) (l4 := l4) (l6 := s.1) (σ := σ) (F := f) (N := N) (r := r) hN f N hN (Nat.le_refl f) ((0 : Int32), s.2) _ _ hM es g0 g1 g2 g3 g4 g5 g6 g7 h
      rw [← er2] at L
      obtain ⟨lv, M, h, hM, es, g0, g1, g2, g3, g4, g5, g6⟩ := L
      obtain ⟨lv, h, g, T⟩ := qa_iinc (n := 6) (z := (1 : Int32)) (q := 109) (qa_e rfl h) rfl (by decide) g6
      replace g0 := T _ _ g0 (by decide) (Or.inr rfl)
      replace g1 := T _ _ g1 (by decide) (Or.inr rfl)
      replace g2 := T _ _ g2 (by decide) (Or.inr rfl)
      replace g3 := T _ _ g3 (by decide) (Or.inr rfl)
      replace g4 := T _ _ g4 (by decide) (Or.inr rfl)
      replace g5 := T _ _ g5 (by decide) (Or.inr rfl)
      replace g6 := g
      clear g T
      replace h := qa_goto (q := 49) (qa_e rfl h) rfl
      have e0 : mc_245_99_p49 N l1 l2 l3 l4 σ s = .inl ((s.1 + (1 : Int32)), r2.2) := by exact Eq.trans (if_pos c1) (Eq.trans (qa_ie er2) (rfl))
      rw [qa_whl e0]
      exact ih n hn (Nat.le_of_succ_le hF) ((s.1 + (1 : Int32)), r2.2) _ _ hM es g0 g1 g2 g3 g4 g5 g6 h
    · replace h := qa_ift (q := 112) (qa_e rfl h) rfl (qa_T_ge c1)
      have e0 : mc_245_99_p49 N l1 l2 l3 l4 σ s = .inr (s.1, s.2) := by exact Eq.trans (if_neg c1) (rfl)
      rw [qa_whr e0]
      exact ⟨_, _, q61_mono f F _ _ _ _ _ _ _ _ (Nat.le_of_succ_le hF) h, hM, es, g0, g1, g2, g3, g4, g5⟩
noncomputable def mc_245_99_p34 (N : Nat) (l1 : Int32) (σ : qa_S) (s : Int32 × Int32 × Int32) : (Int32 × Int32 × Int32) ⊕ (Int32 × Int32 × Int32) :=
  if s.1 < (σ 99 0) then
    qa_in ((qa_wh (fun s => s) (mc_245_99_p49 N l1 s.2.1 s.2.2 s.1 σ) N ((0 : Int32), (0 : Int32)))) fun r2 =>
    .inl ((s.1 + (1 : Int32)), (if s.2.2 < r2.2 then s.1 else s.2.1), (if s.2.2 < r2.2 then r2.2 else s.2.2))
  else
    .inr (s.1, s.2.1, s.2.2)
theorem md_245_99_p34 {N F : Nat} {r : Option Value × q4_M} {l1 : Int32} {σ : qa_S} (hN : F ≤ N) : ∀ f n, f ≤ n → f ≤ F → ∀ (s : Int32 × Int32 × Int32) (lv : List (Nat × Value)) (M : q4_M), qa_O M → qa_s M = σ → q4_get lv 0 = some (.ref 99) → q4_get lv 1 = some (.int (l1)) → q4_get lv 2 = some (.int (s.2.1)) → q4_get lv 3 = some (.int (s.2.2)) → q4_get lv 4 = some (.int (s.1)) → q4_run f 245 34 lv [] M 0 0 = some r → ∃ lv M, q4_run F 245 144 lv [] M 0 0 = some r ∧ qa_O M ∧ qa_s M = σ ∧ q4_get lv 1 = some (.int (l1)) ∧ q4_get lv 2 = some (.int ((qa_wh (fun s => s) (mc_245_99_p34 N l1 σ) n s).2.1)) ∧ q4_get lv 3 = some (.int ((qa_wh (fun s => s) (mc_245_99_p34 N l1 σ) n s).2.2)) := by
  intro f
  induction f with
  | zero => intro n _ _ s lv M hM es _ _ _ _ _ h; cases h
  | succ f ih =>
    intro n hn hF s lv M hM es g0 g1 g2 g3 g4 h
    obtain ⟨n, rfl⟩ : ∃ n1, n = n1 + 1 := ⟨n - 1, by omega⟩
    replace hn : f ≤ n := Nat.le_of_succ_le_succ hn
    have hN := Nat.le_trans (Nat.le_of_succ_le hF) hN
    replace h := qa_iload (n := 4) (q := 36) (qa_d rfl h) rfl g4
    replace h := qa_aload (n := 0) (q := 37) (qa_e rfl h) rfl g0
    replace h := qa_gi (j := 0) (q := 40) (qa_e rfl h) rfl hM es rfl (by decide)
    by_cases c1 : s.1 < (σ 99 0)
    · replace h := qa_iff (q := 43) (qa_e rfl h) rfl (qa_F_ge c1)
      replace h := qa_push (z := (0 : Int32)) (q := 44) (qa_e rfl h) rfl (by decide)
      obtain ⟨lv, h, g, T⟩ := qa_istore (n := 5) (q := 46) (qa_e rfl h) rfl
      replace g0 := T _ _ g0 (by decide) (Or.inr rfl)
      replace g1 := T _ _ g1 (by decide) (Or.inr rfl)
      replace g2 := T _ _ g2 (by decide) (Or.inr rfl)
      replace g3 := T _ _ g3 (by decide) (Or.inr rfl)
      replace g4 := T _ _ g4 (by decide) (Or.inr rfl)
      have g5 := g
      clear g T
      replace h := qa_push (z := (0 : Int32)) (q := 47) (qa_e rfl h) rfl (by decide)
      obtain ⟨lv, h, g, T⟩ := qa_istore (n := 6) (q := 49) (qa_e rfl h) rfl
      replace g0 := T _ _ g0 (by decide) (Or.inr rfl)
      replace g1 := T _ _ g1 (by decide) (Or.inr rfl)
      replace g2 := T _ _ g2 (by decide) (Or.inr rfl)
      replace g3 := T _ _ g3 (by decide) (Or.inr rfl)
      replace g4 := T _ _ g4 (by decide) (Or.inr rfl)
      replace g5 := T _ _ g5 (by decide) (Or.inr rfl)
      have g6 := g
      clear g T
      obtain ⟨r2, er2⟩ : ∃ x, x = (qa_wh (fun s => s) (mc_245_99_p49 N l1 s.2.1 s.2.2 s.1 σ) N ((0 : Int32), (0 : Int32))) := ⟨_, rfl⟩
      have L := md_245_99_p49 (l1 := l1) (l2 := s.2.1) (l3 := s.2.2) (l4 := s.1) (σ := σ) (F := f) (N := N) (r := r) hN f N hN (Nat.le_refl f) ((0 : Int32), (0 : Int32)) _ _ hM es g0 g1 g2 g3 g4 g5 g6 h
      rw [← er2] at L
      obtain ⟨lv, M, h, hM, es, g0, g1, g2, g3, g4, g5⟩ := L
      replace h := qa_iload (n := 5) (q := 114) (qa_e rfl h) rfl g5
      replace h := qa_iload (n := 3) (q := 115) (qa_e rfl h) rfl g3
      obtain ⟨lv, M, h, hM, es, g0, g1, g3, g4, g5⟩ : ∃ lv M, q4_run f 245 124 lv [.int ((if s.2.2 < r2.2 then s.1 else s.2.1))] M 0 0 = some r ∧ qa_O M ∧ qa_s M = σ ∧ q4_get lv 0 = some (.ref 99) ∧ q4_get lv 1 = some (.int (l1)) ∧ q4_get lv 3 = some (.int (s.2.2)) ∧ q4_get lv 4 = some (.int (s.1)) ∧ q4_get lv 5 = some (.int (r2.2)) := by
        by_cases c3 : s.2.2 < r2.2
        · replace h := qa_iff (q := 118) (qa_e rfl h) rfl (qa_F_le c3)
          replace h := qa_iload (n := 4) (q := 120) (qa_e rfl h) rfl g4
          replace h := qa_goto (q := 124) (qa_e rfl h) rfl
          exact ⟨lv, M, (qa_hi1 c3 h), hM, es, g0, g1, g3, g4, g5⟩
        · replace h := qa_ift (q := 123) (qa_e rfl h) rfl (qa_T_le c3)
          replace h := qa_iload (n := 2) (q := 124) (qa_e rfl h) rfl g2
          exact ⟨lv, M, (qa_hi0 c3 h), hM, es, g0, g1, g3, g4, g5⟩
      obtain ⟨lv, h, g, T⟩ := qa_istore (n := 2) (q := 125) (qa_e rfl h) rfl
      replace g0 := T _ _ g0 (by decide) (Or.inr rfl)
      replace g1 := T _ _ g1 (by decide) (Or.inr rfl)
      replace g3 := T _ _ g3 (by decide) (Or.inr rfl)
      replace g4 := T _ _ g4 (by decide) (Or.inr rfl)
      replace g5 := T _ _ g5 (by decide) (Or.inr rfl)
      have g2 := g
      clear g T
      replace h := qa_iload (n := 5) (q := 127) (qa_e rfl h) rfl g5
      replace h := qa_iload (n := 3) (q := 128) (qa_e rfl h) rfl g3
      obtain ⟨lv, M, h, hM, es, g0, g1, g2, g4⟩ : ∃ lv M, q4_run f 245 137 lv [.int ((if s.2.2 < r2.2 then r2.2 else s.2.2))] M 0 0 = some r ∧ qa_O M ∧ qa_s M = σ ∧ q4_get lv 0 = some (.ref 99) ∧ q4_get lv 1 = some (.int (l1)) ∧ q4_get lv 2 = some (.int ((if s.2.2 < r2.2 then s.1 else s.2.1))) ∧ q4_get lv 4 = some (.int (s.1)) := by
        by_cases c4 : s.2.2 < r2.2
        · replace h := qa_iff (q := 131) (qa_e rfl h) rfl (qa_F_le c4)
          replace h := qa_iload (n := 5) (q := 133) (qa_e rfl h) rfl g5
          replace h := qa_goto (q := 137) (qa_e rfl h) rfl
          exact ⟨lv, M, (qa_hi1 c4 h), hM, es, g0, g1, g2, g4⟩
        · replace h := qa_ift (q := 136) (qa_e rfl h) rfl (qa_T_le c4)
          replace h := qa_iload (n := 3) (q := 137) (qa_e rfl h) rfl g3
          exact ⟨lv, M, (qa_hi0 c4 h), hM, es, g0, g1, g2, g4⟩
      obtain ⟨lv, h, g, T⟩ := qa_istore (n := 3) (q := 138) (qa_e rfl h) rfl
      replace g0 := T _ _ g0 (by decide) (Or.inr rfl)
      replace g1 := T _ _ g1 (by decide) (Or.inr rfl)
      replace g2 := T _ _ g2 (by decide) (Or.inr rfl)
      replace g4 := T _ _ g4 (by decide) (Or.inr rfl)
      have g3 := g
      clear g T
      obtain ⟨lv, h, g, T⟩ := qa_iinc (n := 4) (z := (1 : Int32)) (q := 141) (qa_e rfl h) rfl (by decide) g4
      replace g0 := T _ _ g0 (by decide) (Or.inr rfl)
      replace g1 := T _ _ g1 (by decide) (Or.inr rfl)
      replace g2 := T _ _ g2 (by decide) (Or.inr rfl)
      replace g3 := T _ _ g3 (by decide) (Or.inr rfl)
      replace g4 := g
      clear g T
      replace h := qa_goto (q := 34) (qa_e rfl h) rfl
      have e0 : mc_245_99_p34 N l1 σ s = .inl ((s.1 + (1 : Int32)), (if s.2.2 < r2.2 then s.1 else s.2.1), (if s.2.2 < r2.2 then r2.2 else s.2.2)) := by exact Eq.trans (if_pos c1) (Eq.trans (qa_ie er2) (rfl))
      rw [qa_whl e0]
      exact ih n hn (Nat.le_of_succ_le hF) ((s.1 + (1 : Int32)), (if s.2.2 < r2.2 then s.1 else s.2.1), (if s.2.2 < r2.2 then r2.2 else s.2.2)) _ _ hM es g0 g1 g2 g3 g4 h
    · replace h := qa_ift (q := 144) (qa_e rfl h) rfl (qa_T_ge c1)
      have e0 : mc_245_99_p34 N l1 σ s = .inr (s.1, s.2.1, s.2.2) := by exact Eq.trans (if_neg c1) (rfl)
      rw [qa_whr e0]
      exact ⟨_, _, q61_mono f F _ _ _ _ _ _ _ _ (Nat.le_of_succ_le hF) h, hM, es, g1, g2, g3⟩
/-- BuriedBySevensModel, loner, (I)I -/
noncomputable def ma_245_99 (N : Nat) (a1 : Int32) (σ : qa_S) : Int32 × qa_S :=
  qa_in (qa_u σ 99 9 (0 : Int32)) fun m1 =>
  if (ma_158 (a1).toInt64 (0 : Int64) (1 : Int64)) = (0 : Int32) then
    qa_in ((ma_152_99 (-2 : Int32) m1)) fun r3 =>
    (r3.1, r3.2)
  else
    qa_in ((ma_181_99 N m1)) fun m4 =>
    qa_in ((qa_wh (fun s => s) (mc_245_99_p34 N a1 m4) N ((0 : Int32), (-9 : Int32), (-1 : Int32)))) fun r5 =>
    ((if a1 = (0 : Int32) then r5.2.1 else (if r5.2.2 < (0 : Int32) then (0 : Int32) else r5.2.2)), m4)
theorem mb_245_99 {f N : Nat} (hN : f ≤ N) {M : q4_M} {r : Option Value × q4_M} {σ : qa_S} {a1 : Int32} (hM : qa_O M) (es : qa_s M = σ) (h : q4_run f 245 0 (lv_args 0 [.ref 99, .int (a1)]) [] M 0 0 = some r) : r.1 = some (.int ((ma_245_99 N a1 σ).1)) ∧ qa_O r.2 ∧ qa_s r.2 = (ma_245_99 N a1 σ).2 := by
  obtain ⟨lv, el⟩ : ∃ l, l = lv_args 0 [.ref 99, .int (a1)] := ⟨_, rfl⟩
  have g0 : q4_get lv 0 = some (.ref 99) := by rw [el]; rfl
  have g1 : q4_get lv 1 = some (.int (a1)) := by rw [el]; rfl
  rw [← el] at h
  clear el
  replace h := qa_aload (n := 0) (q := 1) (qa_e rfl h) rfl g0
  replace h := qa_push (z := (0 : Int32)) (q := 2) (qa_e rfl h) rfl (by decide)
  obtain ⟨m1, em1⟩ : ∃ x, x = qa_u σ 99 9 (0 : Int32) := ⟨_, rfl⟩
  obtain ⟨M, h, hM, es⟩ := qa_pf (j := 9) (q := 5) (qa_e rfl h) rfl hM es rfl (by decide)
  rw [← em1] at es
  replace h := qa_iload (n := 1) (q := 6) (qa_e rfl h) rfl g1
  replace h := qa_i2l (q := 7) (qa_e rfl h) rfl
  replace h := qa_lpush (z := (0 : Int64)) (q := 8) (qa_e rfl h) rfl (by decide)
  replace h := qa_lpush (z := (1 : Int64)) (q := 9) (qa_e rfl h) rfl (by decide)
  obtain ⟨M, h, hM, es⟩ := qa_c1 (y := 158) (as := [.long ((a1).toInt64), .long ((0 : Int64)), .long ((1 : Int64))]) (rest := []) (i := .invokestatic 158) (q := 12) (qa_e rfl h) (Or.inr rfl) rfl rfl (by decide) rfl (fun r hc => mb_158 hM es hc)
  by_cases c2 : (ma_158 (a1).toInt64 (0 : Int64) (1 : Int64)) = (0 : Int32)
  · replace h := qa_icf (q := 15) (qa_e rfl h) rfl (qa_F_ne c2)
    replace h := qa_aload (n := 0) (q := 16) (qa_e rfl h) rfl g0
    replace h := qa_push (z := (-2 : Int32)) (q := 18) (qa_e rfl h) rfl (by decide)
    obtain ⟨r3, er3⟩ : ∃ x, x = (ma_152_99 (-2 : Int32) m1) := ⟨_, rfl⟩
    obtain ⟨M, h, hM, es⟩ := qa_c1 (y := 152) (as := [.ref 99, .int ((-2 : Int32))]) (rest := []) (i := .invokevirtual 152) (q := 21) (qa_e rfl h) (Or.inl rfl) rfl rfl (by decide) rfl (fun r hc => mb_152_99 hM es hc)
    rw [← er3] at h es
    have er := qa_ri (qa_e rfl h)
    subst er
    have e0 : ma_245_99 N a1 σ = (r3.1, r3.2) := by exact Eq.trans (qa_ie em1) (Eq.trans (if_pos c2) (Eq.trans (qa_ie er3) (rfl)))
    rw [e0]
    exact ⟨rfl, hM, es⟩
  · replace h := qa_ict (q := 22) (qa_e rfl h) rfl (qa_T_ne c2)
    replace h := qa_aload (n := 0) (q := 23) (qa_e rfl h) rfl g0
    obtain ⟨m4, em4⟩ : ∃ x, x = (ma_181_99 N m1) := ⟨_, rfl⟩
    obtain ⟨M, h, hM, es⟩ := qa_c0 (y := 181) (as := [.ref 99]) (rest := []) (i := .invokevirtual 181) (q := 26) (qa_e rfl h) (Or.inl rfl) rfl rfl (by decide) rfl (fun r hc => mb_181_99 hN hM es hc)
    rw [← em4] at es
    replace h := qa_push (z := (-9 : Int32)) (q := 28) (qa_e rfl h) rfl (by decide)
    obtain ⟨lv, h, g, T⟩ := qa_istore (n := 2) (q := 29) (qa_e rfl h) rfl
    replace g0 := T _ _ g0 (by decide) (Or.inr rfl)
    replace g1 := T _ _ g1 (by decide) (Or.inr rfl)
    have g2 := g
    clear g T
    replace h := qa_push (z := (-1 : Int32)) (q := 30) (qa_e rfl h) rfl (by decide)
    obtain ⟨lv, h, g, T⟩ := qa_istore (n := 3) (q := 31) (qa_e rfl h) rfl
    replace g0 := T _ _ g0 (by decide) (Or.inr rfl)
    replace g1 := T _ _ g1 (by decide) (Or.inr rfl)
    replace g2 := T _ _ g2 (by decide) (Or.inr rfl)
    have g3 := g
    clear g T
    replace h := qa_push (z := (0 : Int32)) (q := 32) (qa_e rfl h) rfl (by decide)
    obtain ⟨lv, h, g, T⟩ := qa_istore (n := 4) (q := 34) (qa_e rfl h) rfl
    replace g0 := T _ _ g0 (by decide) (Or.inr rfl)
    replace g1 := T _ _ g1 (by decide) (Or.inr rfl)
    replace g2 := T _ _ g2 (by decide) (Or.inr rfl)
    replace g3 := T _ _ g3 (by decide) (Or.inr rfl)
    have g4 := g
    clear g T
    obtain ⟨r5, er5⟩ : ∃ x, x = (qa_wh (fun s => s) (mc_245_99_p34 N a1 m4) N ((0 : Int32), (-9 : Int32), (-1 : Int32))) := ⟨_, rfl⟩
    have L := md_245_99_p34 (l1 := a1) (σ := m4) (F := f) (N := N) (r := r) hN f N hN (Nat.le_refl f) ((0 : Int32), (-9 : Int32), (-1 : Int32)) _ _ hM es g0 g1 g2 g3 g4 h
    rw [← er5] at L
    obtain ⟨lv, M, h, hM, es, g1, g2, g3⟩ := L
    replace h := qa_iload (n := 1) (q := 145) (qa_e rfl h) rfl g1
    obtain ⟨lv, M, h, hM, es⟩ : ∃ lv M, q4_run f 245 161 lv [.int ((if a1 = (0 : Int32) then r5.2.1 else (if r5.2.2 < (0 : Int32) then (0 : Int32) else r5.2.2)))] M 0 0 = some r ∧ qa_O M ∧ qa_s M = m4 := by
      by_cases c6 : a1 = (0 : Int32)
      · replace h := qa_icf (q := 148) (qa_e rfl h) rfl (qa_F_ne c6)
        replace h := qa_iload (n := 2) (q := 149) (qa_e rfl h) rfl g2
        replace h := qa_goto (q := 161) (qa_e rfl h) rfl
        exact ⟨lv, M, (qa_hi1 c6 h), hM, es⟩
      · replace h := qa_ict (q := 152) (qa_e rfl h) rfl (qa_T_ne c6)
        replace h := qa_iload (n := 3) (q := 153) (qa_e rfl h) rfl g3
        obtain ⟨lv, M, h, hM, es⟩ : ∃ lv M, q4_run f 245 161 lv [.int ((if r5.2.2 < (0 : Int32) then (0 : Int32) else r5.2.2))] M 0 0 = some r ∧ qa_O M ∧ qa_s M = m4 := by
          by_cases c7 : r5.2.2 < (0 : Int32)
          · replace h := qa_icf (q := 156) (qa_e rfl h) rfl (qa_F_ge c7)
            replace h := qa_push (z := (0 : Int32)) (q := 157) (qa_e rfl h) rfl (by decide)
            replace h := qa_goto (q := 161) (qa_e rfl h) rfl
            exact ⟨lv, M, (qa_hi1 c7 h), hM, es⟩
          · replace h := qa_ict (q := 160) (qa_e rfl h) rfl (qa_T_ge c7)
            replace h := qa_iload (n := 3) (q := 161) (qa_e rfl h) rfl g3
            exact ⟨lv, M, (qa_hi0 c7 h), hM, es⟩
        exact ⟨lv, M, (qa_hi0 c6 h), hM, es⟩
    have er := qa_ri (qa_e rfl h)
    subst er
    have e0 : ma_245_99 N a1 σ = ((if a1 = (0 : Int32) then r5.2.1 else (if r5.2.2 < (0 : Int32) then (0 : Int32) else r5.2.2)), m4) := by exact Eq.trans (qa_ie em1) (Eq.trans (if_neg c2) (Eq.trans (qa_ie em4) (Eq.trans (qa_ie er5) (rfl))))
    rw [e0]
    exact ⟨rfl, hM, es⟩
noncomputable def mc_246_99_p48 (N : Nat) (l1 : Int32) (l2 : Int32) (l3 : Int32) (l4 : Int32) (σ : qa_S) (s : Int32 × Int32) : (Int32 × Int32) ⊕ (Int32 × Int32) :=
  if s.1 < (4 : Int32) then
    .inl ((s.1 + (1 : Int32)), (s.2 + (ma_227 ((σ 108 (((4 : Int32) * l4) + s.1).toNatClampNeg) - (σ 108 (((4 : Int32) * l1) + s.1).toNatClampNeg)))))
  else
    .inr (s.1, s.2)
theorem md_246_99_p48 {N F : Nat} {r : Option Value × q4_M} {l1 : Int32} {l2 : Int32} {l3 : Int32} {l4 : Int32} {σ : qa_S} (hN : F ≤ N) : ∀ f n, f ≤ n → f ≤ F → ∀ (s : Int32 × Int32) (lv : List (Nat × Value)) (M : q4_M), qa_O M → qa_s M = σ → q4_get lv 0 = some (.ref 99) → q4_get lv 1 = some (.int (l1)) → q4_get lv 2 = some (.int (l2)) → q4_get lv 3 = some (.int (l3)) → q4_get lv 4 = some (.int (l4)) → q4_get lv 5 = some (.int (s.2)) → q4_get lv 6 = some (.int (s.1)) → q4_run f 246 48 lv [] M 0 0 = some r → ∃ lv M, q4_run F 246 92 lv [] M 0 0 = some r ∧ qa_O M ∧ qa_s M = σ ∧ q4_get lv 0 = some (.ref 99) ∧ q4_get lv 1 = some (.int (l1)) ∧ q4_get lv 2 = some (.int (l2)) ∧ q4_get lv 3 = some (.int (l3)) ∧ q4_get lv 4 = some (.int (l4)) ∧ q4_get lv 5 = some (.int ((qa_wh (fun s => s) (mc_246_99_p48 N l1 l2 l3 l4 σ) n s).2)) := by
  intro f
  induction f with
  | zero => intro n _ _ s lv M hM es _ _ _ _ _ _ _ h; cases h
  | succ f ih =>
    intro n hn hF s lv M hM es g0 g1 g2 g3 g4 g5 g6 h
    obtain ⟨n, rfl⟩ : ∃ n1, n = n1 + 1 := ⟨n - 1, by omega⟩
    replace hn : f ≤ n := Nat.le_of_succ_le_succ hn
    have hN := Nat.le_trans (Nat.le_of_succ_le hF) hN
    replace h := qa_iload (n := 6) (q := 50) (qa_d rfl h) rfl g6
    replace h := qa_push (z := (4 : Int32)) (q := 51) (qa_e rfl h) rfl (by decide)
    by_cases c1 : s.1 < (4 : Int32)
    · replace h := qa_iff (q := 54) (qa_e rfl h) rfl (qa_F_ge c1)
      replace h := qa_iload (n := 5) (q := 56) (qa_e rfl h) rfl g5
      replace h := qa_aload (n := 0) (q := 57) (qa_e rfl h) rfl g0
      replace h := qa_gr (b := 108) (j := 11) (q := 60) (qa_e rfl h) rfl hM rfl (by decide)
      replace h := qa_push (z := (4 : Int32)) (q := 61) (qa_e rfl h) rfl (by decide)
      replace h := qa_iload (n := 4) (q := 63) (qa_e rfl h) rfl g4
      replace h := qa_imul (q := 64) (qa_e rfl h) rfl
      replace h := qa_iload (n := 6) (q := 66) (qa_e rfl h) rfl g6
      replace h := qa_iadd (q := 67) (qa_e rfl h) rfl
      replace h := qa_iaload (jn := (((4 : Int32) * l4) + s.1).toNatClampNeg) (q := 68) (qa_e rfl h) rfl hM es rfl
      replace h := qa_aload (n := 0) (q := 69) (qa_e rfl h) rfl g0
      replace h := qa_gr (b := 108) (j := 11) (q := 72) (qa_e rfl h) rfl hM rfl (by decide)
      replace h := qa_push (z := (4 : Int32)) (q := 73) (qa_e rfl h) rfl (by decide)
      replace h := qa_iload (n := 1) (q := 74) (qa_e rfl h) rfl g1
      replace h := qa_imul (q := 75) (qa_e rfl h) rfl
      replace h := qa_iload (n := 6) (q := 77) (qa_e rfl h) rfl g6
      replace h := qa_iadd (q := 78) (qa_e rfl h) rfl
      replace h := qa_iaload (jn := (((4 : Int32) * l1) + s.1).toNatClampNeg) (q := 79) (qa_e rfl h) rfl hM es rfl
      replace h := qa_isub (q := 80) (qa_e rfl h) rfl
      obtain ⟨M, h, hM, es⟩ := qa_c1 (y := 227) (as := [.int (((σ 108 (((4 : Int32) * l4) + s.1).toNatClampNeg) - (σ 108 (((4 : Int32) * l1) + s.1).toNatClampNeg)))]) (rest := [.int (s.2)]) (i := .invokestatic 227) (q := 83) (qa_e rfl h) (Or.inr rfl) rfl rfl (by decide) rfl (fun r hc => mb_227 hM es hc)
      replace h := qa_iadd (q := 84) (qa_e rfl h) rfl
      obtain ⟨lv, h, g, T⟩ := qa_istore (n := 5) (q := 86) (qa_e rfl h) rfl
      replace g0 := T _ _ g0 (by decide) (Or.inr rfl)
      replace g1 := T _ _ g1 (by decide) (Or.inr rfl)
      replace g2 := T _ _ g2 (by decide) (Or.inr rfl)
      replace g3 := T _ _ g3 (by decide) (Or.inr rfl)
      replace g4 := T _ _ g4 (by decide) (Or.inr rfl)
      replace g6 := T _ _ g6 (by decide) (Or.inr rfl)
      have g5 := g
      clear g T
      obtain ⟨lv, h, g, T⟩ := qa_iinc (n := 6) (z := (1 : Int32)) (q := 89) (qa_e rfl h) rfl (by decide) g6
      replace g0 := T _ _ g0 (by decide) (Or.inr rfl)
      replace g1 := T _ _ g1 (by decide) (Or.inr rfl)
      replace g2 := T _ _ g2 (by decide) (Or.inr rfl)
      replace g3 := T _ _ g3 (by decide) (Or.inr rfl)
      replace g4 := T _ _ g4 (by decide) (Or.inr rfl)
      replace g5 := T _ _ g5 (by decide) (Or.inr rfl)
      replace g6 := g
      clear g T
      replace h := qa_goto (q := 48) (qa_e rfl h) rfl
      have e0 : mc_246_99_p48 N l1 l2 l3 l4 σ s = .inl ((s.1 + (1 : Int32)), (s.2 + (ma_227 ((σ 108 (((4 : Int32) * l4) + s.1).toNatClampNeg) - (σ 108 (((4 : Int32) * l1) + s.1).toNatClampNeg))))) := by exact Eq.trans (if_pos c1) (rfl)
      rw [qa_whl e0]
      exact ih n hn (Nat.le_of_succ_le hF) ((s.1 + (1 : Int32)), (s.2 + (ma_227 ((σ 108 (((4 : Int32) * l4) + s.1).toNatClampNeg) - (σ 108 (((4 : Int32) * l1) + s.1).toNatClampNeg))))) _ _ hM es g0 g1 g2 g3 g4 g5 g6 h
    · replace h := qa_ift (q := 92) (qa_e rfl h) rfl (qa_T_ge c1)
      have e0 : mc_246_99_p48 N l1 l2 l3 l4 σ s = .inr (s.1, s.2) := by exact Eq.trans (if_neg c1) (rfl)
      rw [qa_whr e0]
      exact ⟨_, _, q61_mono f F _ _ _ _ _ _ _ _ (Nat.le_of_succ_le hF) h, hM, es, g0, g1, g2, g3, g4, g5⟩
noncomputable def mc_246_99_p33 (N : Nat) (l1 : Int32) (σ : qa_S) (s : Int32 × Int32 × Int32) : (Int32 × Int32 × Int32) ⊕ (Int32 × Int32 × Int32) :=
  if s.1 < (σ 99 0) then
    qa_in ((qa_wh (fun s => s) (mc_246_99_p48 N l1 s.2.1 s.2.2 s.1 σ) N ((0 : Int32), (0 : Int32)))) fun r2 =>
    .inl ((s.1 + (1 : Int32)), (if s.1 = l1 then s.2.1 else (if r2.2 < s.2.2 then s.1 else s.2.1)), (if s.1 = l1 then s.2.2 else (if r2.2 < s.2.2 then r2.2 else s.2.2)))
  else
    .inr (s.1, s.2.1, s.2.2)
theorem md_246_99_p33 {N F : Nat} {r : Option Value × q4_M} {l1 : Int32} {σ : qa_S} (hN : F ≤ N) : ∀ f n, f ≤ n → f ≤ F → ∀ (s : Int32 × Int32 × Int32) (lv : List (Nat × Value)) (M : q4_M), qa_O M → qa_s M = σ → q4_get lv 0 = some (.ref 99) → q4_get lv 1 = some (.int (l1)) → q4_get lv 2 = some (.int (s.2.1)) → q4_get lv 3 = some (.int (s.2.2)) → q4_get lv 4 = some (.int (s.1)) → q4_run f 246 33 lv [] M 0 0 = some r → ∃ lv M, q4_run F 246 136 lv [] M 0 0 = some r ∧ qa_O M ∧ qa_s M = σ ∧ q4_get lv 2 = some (.int ((qa_wh (fun s => s) (mc_246_99_p33 N l1 σ) n s).2.1)) := by
  intro f
  induction f with
  | zero => intro n _ _ s lv M hM es _ _ _ _ _ h; cases h
  | succ f ih =>
    intro n hn hF s lv M hM es g0 g1 g2 g3 g4 h
    obtain ⟨n, rfl⟩ : ∃ n1, n = n1 + 1 := ⟨n - 1, by omega⟩
    replace hn : f ≤ n := Nat.le_of_succ_le_succ hn
    have hN := Nat.le_trans (Nat.le_of_succ_le hF) hN
    replace h := qa_iload (n := 4) (q := 35) (qa_d rfl h) rfl g4
    replace h := qa_aload (n := 0) (q := 36) (qa_e rfl h) rfl g0
    replace h := qa_gi (j := 0) (q := 39) (qa_e rfl h) rfl hM es rfl (by decide)
    by_cases c1 : s.1 < (σ 99 0)
    · replace h := qa_iff (q := 42) (qa_e rfl h) rfl (qa_F_ge c1)
      replace h := qa_push (z := (0 : Int32)) (q := 43) (qa_e rfl h) rfl (by decide)
      obtain ⟨lv, h, g, T⟩ := qa_istore (n := 5) (q := 45) (qa_e rfl h) rfl
      replace g0 := T _ _ g0 (by decide) (Or.inr rfl)
      replace g1 := T _ _ g1 (by decide) (Or.inr rfl)
      replace g2 := T _ _ g2 (by decide) (Or.inr rfl)
      replace g3 := T _ _ g3 (by decide) (Or.inr rfl)
      replace g4 := T _ _ g4 (by decide) (Or.inr rfl)
      have g5 := g
      clear g T
      replace h := qa_push (z := (0 : Int32)) (q := 46) (qa_e rfl h) rfl (by decide)
      obtain ⟨lv, h, g, T⟩ := qa_istore (n := 6) (q := 48) (qa_e rfl h) rfl
      replace g0 := T _ _ g0 (by decide) (Or.inr rfl)
      replace g1 := T _ _ g1 (by decide) (Or.inr rfl)
      replace g2 := T _ _ g2 (by decide) (Or.inr rfl)
      replace g3 := T _ _ g3 (by decide) (Or.inr rfl)
      replace g4 := T _ _ g4 (by decide) (Or.inr rfl)
      replace g5 := T _ _ g5 (by decide) (Or.inr rfl)
      have g6 := g
      clear g T
      obtain ⟨r2, er2⟩ : ∃ x, x = (qa_wh (fun s => s) (mc_246_99_p48 N l1 s.2.1 s.2.2 s.1 σ) N ((0 : Int32), (0 : Int32))) := ⟨_, rfl⟩
      have L := md_246_99_p48 (l1 := l1) (l2 := s.2.1) (l3 := s.2.2) (l4 := s.1) (σ := σ) (F := f) (N := N) (r := r) hN f N hN (Nat.le_refl f) ((0 : Int32), (0 : Int32)) _ _ hM es g0 g1 g2 g3 g4 g5 g6 h
      rw [← er2] at L
      obtain ⟨lv, M, h, hM, es, g0, g1, g2, g3, g4, g5⟩ := L
      replace h := qa_iload (n := 4) (q := 94) (qa_e rfl h) rfl g4
      replace h := qa_iload (n := 1) (q := 95) (qa_e rfl h) rfl g1
      obtain ⟨lv, M, h, hM, es, g0, g1, g3, g4, g5⟩ : ∃ lv M, q4_run f 246 110 lv [.int ((if s.1 = l1 then s.2.1 else (if r2.2 < s.2.2 then s.1 else s.2.1)))] M 0 0 = some r ∧ qa_O M ∧ qa_s M = σ ∧ q4_get lv 0 = some (.ref 99) ∧ q4_get lv 1 = some (.int (l1)) ∧ q4_get lv 3 = some (.int (s.2.2)) ∧ q4_get lv 4 = some (.int (s.1)) ∧ q4_get lv 5 = some (.int (r2.2)) := by
        by_cases c3 : s.1 = l1
        · replace h := qa_ift (q := 109) (qa_e rfl h) rfl (qa_T_eq c3)
          replace h := qa_iload (n := 2) (q := 110) (qa_e rfl h) rfl g2
          exact ⟨lv, M, (qa_hi1 c3 h), hM, es, g0, g1, g3, g4, g5⟩
        · replace h := qa_iff (q := 98) (qa_e rfl h) rfl (qa_F_eq c3)
          replace h := qa_iload (n := 5) (q := 100) (qa_e rfl h) rfl g5
          replace h := qa_iload (n := 3) (q := 101) (qa_e rfl h) rfl g3
          obtain ⟨lv, M, h, hM, es, g0, g1, g3, g4, g5⟩ : ∃ lv M, q4_run f 246 110 lv [.int ((if r2.2 < s.2.2 then s.1 else s.2.1))] M 0 0 = some r ∧ qa_O M ∧ qa_s M = σ ∧ q4_get lv 0 = some (.ref 99) ∧ q4_get lv 1 = some (.int (l1)) ∧ q4_get lv 3 = some (.int (s.2.2)) ∧ q4_get lv 4 = some (.int (s.1)) ∧ q4_get lv 5 = some (.int (r2.2)) := by
            by_cases c4 : r2.2 < s.2.2
            · replace h := qa_iff (q := 104) (qa_e rfl h) rfl (qa_F_ge c4)
              replace h := qa_iload (n := 4) (q := 106) (qa_e rfl h) rfl g4
              replace h := qa_goto (q := 110) (qa_e rfl h) rfl
              exact ⟨lv, M, (qa_hi1 c4 h), hM, es, g0, g1, g3, g4, g5⟩
            · replace h := qa_ift (q := 109) (qa_e rfl h) rfl (qa_T_ge c4)
              replace h := qa_iload (n := 2) (q := 110) (qa_e rfl h) rfl g2
              exact ⟨lv, M, (qa_hi0 c4 h), hM, es, g0, g1, g3, g4, g5⟩
          exact ⟨lv, M, (qa_hi0 c3 h), hM, es, g0, g1, g3, g4, g5⟩
      obtain ⟨lv, h, g, T⟩ := qa_istore (n := 2) (q := 111) (qa_e rfl h) rfl
      replace g0 := T _ _ g0 (by decide) (Or.inr rfl)
      replace g1 := T _ _ g1 (by decide) (Or.inr rfl)
      replace g3 := T _ _ g3 (by decide) (Or.inr rfl)
      replace g4 := T _ _ g4 (by decide) (Or.inr rfl)
      replace g5 := T _ _ g5 (by decide) (Or.inr rfl)
      have g2 := g
      clear g T
      replace h := qa_iload (n := 4) (q := 113) (qa_e rfl h) rfl g4
      replace h := qa_iload (n := 1) (q := 114) (qa_e rfl h) rfl g1
      obtain ⟨lv, M, h, hM, es, g0, g1, g2, g4⟩ : ∃ lv M, q4_run f 246 129 lv [.int ((if s.1 = l1 then s.2.2 else (if r2.2 < s.2.2 then r2.2 else s.2.2)))] M 0 0 = some r ∧ qa_O M ∧ qa_s M = σ ∧ q4_get lv 0 = some (.ref 99) ∧ q4_get lv 1 = some (.int (l1)) ∧ q4_get lv 2 = some (.int ((if s.1 = l1 then s.2.1 else (if r2.2 < s.2.2 then s.1 else s.2.1)))) ∧ q4_get lv 4 = some (.int (s.1)) := by
        by_cases c5 : s.1 = l1
        · replace h := qa_ift (q := 128) (qa_e rfl h) rfl (qa_T_eq c5)
          replace h := qa_iload (n := 3) (q := 129) (qa_e rfl h) rfl g3
          exact ⟨lv, M, (qa_hi1 c5 h), hM, es, g0, g1, g2, g4⟩
        · replace h := qa_iff (q := 117) (qa_e rfl h) rfl (qa_F_eq c5)
          replace h := qa_iload (n := 5) (q := 119) (qa_e rfl h) rfl g5
          replace h := qa_iload (n := 3) (q := 120) (qa_e rfl h) rfl g3
          obtain ⟨lv, M, h, hM, es, g0, g1, g2, g4⟩ : ∃ lv M, q4_run f 246 129 lv [.int ((if r2.2 < s.2.2 then r2.2 else s.2.2))] M 0 0 = some r ∧ qa_O M ∧ qa_s M = σ ∧ q4_get lv 0 = some (.ref 99) ∧ q4_get lv 1 = some (.int (l1)) ∧ q4_get lv 2 = some (.int ((if s.1 = l1 then s.2.1 else (if r2.2 < s.2.2 then s.1 else s.2.1)))) ∧ q4_get lv 4 = some (.int (s.1)) := by
            by_cases c6 : r2.2 < s.2.2
            · replace h := qa_iff (q := 123) (qa_e rfl h) rfl (qa_F_ge c6)
              replace h := qa_iload (n := 5) (q := 125) (qa_e rfl h) rfl g5
              replace h := qa_goto (q := 129) (qa_e rfl h) rfl
              exact ⟨lv, M, (qa_hi1 c6 h), hM, es, g0, g1, g2, g4⟩
            · replace h := qa_ift (q := 128) (qa_e rfl h) rfl (qa_T_ge c6)
              replace h := qa_iload (n := 3) (q := 129) (qa_e rfl h) rfl g3
              exact ⟨lv, M, (qa_hi0 c6 h), hM, es, g0, g1, g2, g4⟩
          exact ⟨lv, M, (qa_hi0 c5 h), hM, es, g0, g1, g2, g4⟩
      obtain ⟨lv, h, g, T⟩ := qa_istore (n := 3) (q := 130) (qa_e rfl h) rfl
      replace g0 := T _ _ g0 (by decide) (Or.inr rfl)
      replace g1 := T _ _ g1 (by decide) (Or.inr rfl)
      replace g2 := T _ _ g2 (by decide) (Or.inr rfl)
      replace g4 := T _ _ g4 (by decide) (Or.inr rfl)
      have g3 := g
      clear g T
      obtain ⟨lv, h, g, T⟩ := qa_iinc (n := 4) (z := (1 : Int32)) (q := 133) (qa_e rfl h) rfl (by decide) g4
      replace g0 := T _ _ g0 (by decide) (Or.inr rfl)
      replace g1 := T _ _ g1 (by decide) (Or.inr rfl)
      replace g2 := T _ _ g2 (by decide) (Or.inr rfl)
      replace g3 := T _ _ g3 (by decide) (Or.inr rfl)
      replace g4 := g
      clear g T
      replace h := qa_goto (q := 33) (qa_e rfl h) rfl
      have e0 : mc_246_99_p33 N l1 σ s = .inl ((s.1 + (1 : Int32)), (if s.1 = l1 then s.2.1 else (if r2.2 < s.2.2 then s.1 else s.2.1)), (if s.1 = l1 then s.2.2 else (if r2.2 < s.2.2 then r2.2 else s.2.2))) := by exact Eq.trans (if_pos c1) (Eq.trans (qa_ie er2) (rfl))
      rw [qa_whl e0]
      exact ih n hn (Nat.le_of_succ_le hF) ((s.1 + (1 : Int32)), (if s.1 = l1 then s.2.1 else (if r2.2 < s.2.2 then s.1 else s.2.1)), (if s.1 = l1 then s.2.2 else (if r2.2 < s.2.2 then r2.2 else s.2.2))) _ _ hM es g0 g1 g2 g3 g4 h
    · replace h := qa_ift (q := 136) (qa_e rfl h) rfl (qa_T_ge c1)
      have e0 : mc_246_99_p33 N l1 σ s = .inr (s.1, s.2.1, s.2.2) := by exact Eq.trans (if_neg c1) (rfl)
      rw [qa_whr e0]
      exact ⟨_, _, q61_mono f F _ _ _ _ _ _ _ _ (Nat.le_of_succ_le hF) h, hM, es, g2⟩
/-- BuriedBySevensModel, twin, (I)I -/
noncomputable def ma_246_99 (N : Nat) (a1 : Int32) (σ : qa_S) : Int32 × qa_S :=
  qa_in (qa_u σ 99 9 (0 : Int32)) fun m1 =>
  if (ma_163_99 a1 m1) = (0 : Int32) then
    qa_in ((ma_152_99 (-1 : Int32) m1)) fun r3 =>
    (r3.1, r3.2)
  else
    qa_in ((ma_181_99 N m1)) fun m4 =>
    qa_in ((qa_wh (fun s => s) (mc_246_99_p33 N a1 m4) N ((0 : Int32), (-9 : Int32), (9999 : Int32)))) fun r5 =>
    (r5.2.1, m4)
theorem mb_246_99 {f N : Nat} (hN : f ≤ N) {M : q4_M} {r : Option Value × q4_M} {σ : qa_S} {a1 : Int32} (hM : qa_O M) (es : qa_s M = σ) (h : q4_run f 246 0 (lv_args 0 [.ref 99, .int (a1)]) [] M 0 0 = some r) : r.1 = some (.int ((ma_246_99 N a1 σ).1)) ∧ qa_O r.2 ∧ qa_s r.2 = (ma_246_99 N a1 σ).2 := by
  obtain ⟨lv, el⟩ : ∃ l, l = lv_args 0 [.ref 99, .int (a1)] := ⟨_, rfl⟩
  have g0 : q4_get lv 0 = some (.ref 99) := by rw [el]; rfl
  have g1 : q4_get lv 1 = some (.int (a1)) := by rw [el]; rfl
  rw [← el] at h
  clear el
  replace h := qa_aload (n := 0) (q := 1) (qa_e rfl h) rfl g0
  replace h := qa_push (z := (0 : Int32)) (q := 2) (qa_e rfl h) rfl (by decide)
  obtain ⟨m1, em1⟩ : ∃ x, x = qa_u σ 99 9 (0 : Int32) := ⟨_, rfl⟩
  obtain ⟨M, h, hM, es⟩ := qa_pf (j := 9) (q := 5) (qa_e rfl h) rfl hM es rfl (by decide)
  rw [← em1] at es
  replace h := qa_aload (n := 0) (q := 6) (qa_e rfl h) rfl g0
  replace h := qa_iload (n := 1) (q := 7) (qa_e rfl h) rfl g1
  obtain ⟨M, h, hM, es⟩ := qa_c1 (y := 163) (as := [.ref 99, .int (a1)]) (rest := []) (i := .invokevirtual 163) (q := 10) (qa_e rfl h) (Or.inl rfl) rfl rfl (by decide) rfl (fun r hc => mb_163_99 hM es hc)
  by_cases c2 : (ma_163_99 a1 m1) = (0 : Int32)
  · replace h := qa_icf (q := 13) (qa_e rfl h) rfl (qa_F_ne c2)
    replace h := qa_aload (n := 0) (q := 14) (qa_e rfl h) rfl g0
    replace h := qa_push (z := (-1 : Int32)) (q := 15) (qa_e rfl h) rfl (by decide)
    obtain ⟨r3, er3⟩ : ∃ x, x = (ma_152_99 (-1 : Int32) m1) := ⟨_, rfl⟩
    obtain ⟨M, h, hM, es⟩ := qa_c1 (y := 152) (as := [.ref 99, .int ((-1 : Int32))]) (rest := []) (i := .invokevirtual 152) (q := 18) (qa_e rfl h) (Or.inl rfl) rfl rfl (by decide) rfl (fun r hc => mb_152_99 hM es hc)
    rw [← er3] at h es
    have er := qa_ri (qa_e rfl h)
    subst er
    have e0 : ma_246_99 N a1 σ = (r3.1, r3.2) := by exact Eq.trans (qa_ie em1) (Eq.trans (if_pos c2) (Eq.trans (qa_ie er3) (rfl)))
    rw [e0]
    exact ⟨rfl, hM, es⟩
  · replace h := qa_ict (q := 19) (qa_e rfl h) rfl (qa_T_ne c2)
    replace h := qa_aload (n := 0) (q := 20) (qa_e rfl h) rfl g0
    obtain ⟨m4, em4⟩ : ∃ x, x = (ma_181_99 N m1) := ⟨_, rfl⟩
    obtain ⟨M, h, hM, es⟩ := qa_c0 (y := 181) (as := [.ref 99]) (rest := []) (i := .invokevirtual 181) (q := 23) (qa_e rfl h) (Or.inl rfl) rfl rfl (by decide) rfl (fun r hc => mb_181_99 hN hM es hc)
    rw [← em4] at es
    replace h := qa_push (z := (-9 : Int32)) (q := 25) (qa_e rfl h) rfl (by decide)
    obtain ⟨lv, h, g, T⟩ := qa_istore (n := 2) (q := 26) (qa_e rfl h) rfl
    replace g0 := T _ _ g0 (by decide) (Or.inr rfl)
    replace g1 := T _ _ g1 (by decide) (Or.inr rfl)
    have g2 := g
    clear g T
    replace h := qa_push (z := (9999 : Int32)) (q := 29) (qa_e rfl h) rfl (by decide)
    obtain ⟨lv, h, g, T⟩ := qa_istore (n := 3) (q := 30) (qa_e rfl h) rfl
    replace g0 := T _ _ g0 (by decide) (Or.inr rfl)
    replace g1 := T _ _ g1 (by decide) (Or.inr rfl)
    replace g2 := T _ _ g2 (by decide) (Or.inr rfl)
    have g3 := g
    clear g T
    replace h := qa_push (z := (0 : Int32)) (q := 31) (qa_e rfl h) rfl (by decide)
    obtain ⟨lv, h, g, T⟩ := qa_istore (n := 4) (q := 33) (qa_e rfl h) rfl
    replace g0 := T _ _ g0 (by decide) (Or.inr rfl)
    replace g1 := T _ _ g1 (by decide) (Or.inr rfl)
    replace g2 := T _ _ g2 (by decide) (Or.inr rfl)
    replace g3 := T _ _ g3 (by decide) (Or.inr rfl)
    have g4 := g
    clear g T
    obtain ⟨r5, er5⟩ : ∃ x, x = (qa_wh (fun s => s) (mc_246_99_p33 N a1 m4) N ((0 : Int32), (-9 : Int32), (9999 : Int32))) := ⟨_, rfl⟩
    have L := md_246_99_p33 (l1 := a1) (σ := m4) (F := f) (N := N) (r := r) hN f N hN (Nat.le_refl f) ((0 : Int32), (-9 : Int32), (9999 : Int32)) _ _ hM es g0 g1 g2 g3 g4 h
    rw [← er5] at L
    obtain ⟨lv, M, h, hM, es, g2⟩ := L
    replace h := qa_iload (n := 2) (q := 137) (qa_e rfl h) rfl g2
    have er := qa_ri (qa_e rfl h)
    subst er
    have e0 : ma_246_99 N a1 σ = (r5.2.1, m4) := by exact Eq.trans (qa_ie em1) (Eq.trans (if_neg c2) (Eq.trans (qa_ie em4) (Eq.trans (qa_ie er5) (rfl))))
    rw [e0]
    exact ⟨rfl, hM, es⟩
/-- BuriedBySevensModel, row, (I)I -/
noncomputable def ma_247_99 (a1 : Int32) (σ : qa_S) : Int32 × qa_S :=
  qa_in (qa_u σ 99 9 (0 : Int32)) fun m1 =>
  if a1 < (0 : Int32) then
    qa_in ((ma_152_99 (-4 : Int32) m1)) fun r3 =>
    (r3.1, r3.2)
  else
    if (99 : Int32) < a1 then
      qa_in ((ma_152_99 (-6 : Int32) m1)) fun r5 =>
      (r5.1, r5.2)
    else
      if (m1 99 35) = (12 : Int32) then
        qa_in ((ma_152_99 (-6 : Int32) m1)) fun r7 =>
        (r7.1, r7.2)
      else
        qa_in (qa_u m1 122 (m1 99 35).toNatClampNeg a1) fun m8 =>
        qa_in (qa_u m8 99 35 ((m8 99 35) + (1 : Int32))) fun m9 =>
        ((m9 99 35), m9)
theorem mb_247_99 {f : Nat} {M : q4_M} {r : Option Value × q4_M} {σ : qa_S} {a1 : Int32} (hM : qa_O M) (es : qa_s M = σ) (h : q4_run f 247 0 (lv_args 0 [.ref 99, .int (a1)]) [] M 0 0 = some r) : r.1 = some (.int ((ma_247_99 a1 σ).1)) ∧ qa_O r.2 ∧ qa_s r.2 = (ma_247_99 a1 σ).2 := by
  obtain ⟨lv, el⟩ : ∃ l, l = lv_args 0 [.ref 99, .int (a1)] := ⟨_, rfl⟩
  have g0 : q4_get lv 0 = some (.ref 99) := by rw [el]; rfl
  have g1 : q4_get lv 1 = some (.int (a1)) := by rw [el]; rfl
  rw [← el] at h
  clear el
  replace h := qa_aload (n := 0) (q := 1) (qa_e rfl h) rfl g0
  replace h := qa_push (z := (0 : Int32)) (q := 2) (qa_e rfl h) rfl (by decide)
  obtain ⟨m1, em1⟩ : ∃ x, x = qa_u σ 99 9 (0 : Int32) := ⟨_, rfl⟩
  obtain ⟨M, h, hM, es⟩ := qa_pf (j := 9) (q := 5) (qa_e rfl h) rfl hM es rfl (by decide)
  rw [← em1] at es
  replace h := qa_iload (n := 1) (q := 6) (qa_e rfl h) rfl g1
  by_cases c2 : a1 < (0 : Int32)
  · replace h := qa_icf (q := 9) (qa_e rfl h) rfl (qa_F_ge c2)
    replace h := qa_aload (n := 0) (q := 10) (qa_e rfl h) rfl g0
    replace h := qa_push (z := (-4 : Int32)) (q := 12) (qa_e rfl h) rfl (by decide)
    obtain ⟨r3, er3⟩ : ∃ x, x = (ma_152_99 (-4 : Int32) m1) := ⟨_, rfl⟩
    obtain ⟨M, h, hM, es⟩ := qa_c1 (y := 152) (as := [.ref 99, .int ((-4 : Int32))]) (rest := []) (i := .invokevirtual 152) (q := 15) (qa_e rfl h) (Or.inl rfl) rfl rfl (by decide) rfl (fun r hc => mb_152_99 hM es hc)
    rw [← er3] at h es
    have er := qa_ri (qa_e rfl h)
    subst er
    have e0 : ma_247_99 a1 σ = (r3.1, r3.2) := by exact Eq.trans (qa_ie em1) (Eq.trans (if_pos c2) (Eq.trans (qa_ie er3) (rfl)))
    rw [e0]
    exact ⟨rfl, hM, es⟩
  · replace h := qa_ict (q := 16) (qa_e rfl h) rfl (qa_T_ge c2)
    replace h := qa_iload (n := 1) (q := 17) (qa_e rfl h) rfl g1
    replace h := qa_push (z := (99 : Int32)) (q := 19) (qa_e rfl h) rfl (by decide)
    by_cases c4 : (99 : Int32) < a1
    · replace h := qa_ift (q := 31) (qa_e rfl h) rfl (qa_T_gt c4)
      replace h := qa_aload (n := 0) (q := 32) (qa_e rfl h) rfl g0
      replace h := qa_push (z := (-6 : Int32)) (q := 34) (qa_e rfl h) rfl (by decide)
      obtain ⟨r5, er5⟩ : ∃ x, x = (ma_152_99 (-6 : Int32) m1) := ⟨_, rfl⟩
      obtain ⟨M, h, hM, es⟩ := qa_c1 (y := 152) (as := [.ref 99, .int ((-6 : Int32))]) (rest := []) (i := .invokevirtual 152) (q := 37) (qa_e rfl h) (Or.inl rfl) rfl rfl (by decide) rfl (fun r hc => mb_152_99 hM es hc)
      rw [← er5] at h es
      have er := qa_ri (qa_e rfl h)
      subst er
      have e0 : ma_247_99 a1 σ = (r5.1, r5.2) := by exact Eq.trans (qa_ie em1) (Eq.trans (if_neg c2) (Eq.trans (if_pos c4) (Eq.trans (qa_ie er5) (rfl))))
      rw [e0]
      exact ⟨rfl, hM, es⟩
    · replace h := qa_iff (q := 22) (qa_e rfl h) rfl (qa_F_gt c4)
      replace h := qa_aload (n := 0) (q := 23) (qa_e rfl h) rfl g0
      replace h := qa_gi (j := 35) (q := 26) (qa_e rfl h) rfl hM es rfl (by decide)
      replace h := qa_push (z := (12 : Int32)) (q := 28) (qa_e rfl h) rfl (by decide)
      by_cases c6 : (m1 99 35) = (12 : Int32)
      · replace h := qa_iff (q := 31) (qa_e rfl h) rfl (qa_F_ne c6)
        replace h := qa_aload (n := 0) (q := 32) (qa_e rfl h) rfl g0
        replace h := qa_push (z := (-6 : Int32)) (q := 34) (qa_e rfl h) rfl (by decide)
        obtain ⟨r7, er7⟩ : ∃ x, x = (ma_152_99 (-6 : Int32) m1) := ⟨_, rfl⟩
        obtain ⟨M, h, hM, es⟩ := qa_c1 (y := 152) (as := [.ref 99, .int ((-6 : Int32))]) (rest := []) (i := .invokevirtual 152) (q := 37) (qa_e rfl h) (Or.inl rfl) rfl rfl (by decide) rfl (fun r hc => mb_152_99 hM es hc)
        rw [← er7] at h es
        have er := qa_ri (qa_e rfl h)
        subst er
        have e0 : ma_247_99 a1 σ = (r7.1, r7.2) := by exact Eq.trans (qa_ie em1) (Eq.trans (if_neg c2) (Eq.trans (if_neg c4) (Eq.trans (if_pos c6) (Eq.trans (qa_ie er7) (rfl)))))
        rw [e0]
        exact ⟨rfl, hM, es⟩
      · replace h := qa_ift (q := 38) (qa_e rfl h) rfl (qa_T_ne c6)
        replace h := qa_aload (n := 0) (q := 39) (qa_e rfl h) rfl g0
        replace h := qa_gr (b := 122) (j := 34) (q := 42) (qa_e rfl h) rfl hM rfl (by decide)
        replace h := qa_aload (n := 0) (q := 43) (qa_e rfl h) rfl g0
        replace h := qa_gi (j := 35) (q := 46) (qa_e rfl h) rfl hM es rfl (by decide)
        replace h := qa_iload (n := 1) (q := 47) (qa_e rfl h) rfl g1
        obtain ⟨m8, em8⟩ : ∃ x, x = qa_u m1 122 (m1 99 35).toNatClampNeg a1 := ⟨_, rfl⟩
        obtain ⟨M, h, hM, es⟩ := qa_iastore (jn := (m1 99 35).toNatClampNeg) (q := 48) (qa_e rfl h) rfl hM es rfl
        rw [← em8] at es
        replace h := qa_aload (n := 0) (q := 49) (qa_e rfl h) rfl g0
        replace h := qa_dupa (q := 50) (qa_e rfl h) rfl
        replace h := qa_gi (j := 35) (q := 53) (qa_e rfl h) rfl hM es rfl (by decide)
        replace h := qa_push (z := (1 : Int32)) (q := 54) (qa_e rfl h) rfl (by decide)
        replace h := qa_iadd (q := 55) (qa_e rfl h) rfl
        obtain ⟨m9, em9⟩ : ∃ x, x = qa_u m8 99 35 ((m8 99 35) + (1 : Int32)) := ⟨_, rfl⟩
        obtain ⟨M, h, hM, es⟩ := qa_pf (j := 35) (q := 58) (qa_e rfl h) rfl hM es rfl (by decide)
        rw [← em9] at es
        replace h := qa_aload (n := 0) (q := 59) (qa_e rfl h) rfl g0
        replace h := qa_gi (j := 35) (q := 62) (qa_e rfl h) rfl hM es rfl (by decide)
        have er := qa_ri (qa_e rfl h)
        subst er
        have e0 : ma_247_99 a1 σ = ((m9 99 35), m9) := by exact Eq.trans (qa_ie em1) (Eq.trans (if_neg c2) (Eq.trans (if_neg c4) (Eq.trans (if_neg c6) (Eq.trans (qa_ie em8) (Eq.trans (qa_ie em9) (rfl))))))
        rw [e0]
        exact ⟨rfl, hM, es⟩
noncomputable def mc_248_99_p34 (N : Nat) (l1 : Int32) (l2 : Int32) (σ : qa_S) (s : Int32) : (Int32) ⊕ ((Int32) ⊕ (Int32)) :=
  if s < l2 then
    if (σ 99 0) < s then
      .inr (.inl s)
    else
      if (if s = (0 : Int32) then (σ 109 l1.toNatClampNeg) else (σ 108 ((((4 : Int32) * s) - (4 : Int32)) + l1).toNatClampNeg)) = (σ 122 s.toNatClampNeg) then
        .inl (s + (1 : Int32))
      else
        .inr (.inl s)
  else
    .inr (.inr s)
theorem md_248_99_p34 {N F : Nat} {r : Option Value × q4_M} {l1 : Int32} {l2 : Int32} {σ : qa_S} (hN : F ≤ N) : ∀ f n, f ≤ n → f ≤ F → ∀ (s : Int32) (lv : List (Nat × Value)) (M : q4_M), qa_O M → qa_s M = σ → q4_get lv 0 = some (.ref 99) → q4_get lv 1 = some (.int (l1)) → q4_get lv 2 = some (.int (l2)) → q4_get lv 3 = some (.int (s)) → q4_run f 248 34 lv [] M 0 0 = some r → (∀ b, (qa_wh (fun s => .inr s) (mc_248_99_p34 N l1 l2 σ) n s) = .inl b → r.1 = some (.int (b)) ∧ qa_O r.2 ∧ qa_s r.2 = σ) ∧ (∀ b, (qa_wh (fun s => .inr s) (mc_248_99_p34 N l1 l2 σ) n s) = .inr b → ∃ lv M, q4_run F 248 89 lv [] M 0 0 = some r ∧ qa_O M ∧ qa_s M = σ) := by
  intro f
  induction f with
  | zero => intro n _ _ s lv M hM es _ _ _ _ h; cases h
  | succ f ih =>
    intro n hn hF s lv M hM es g0 g1 g2 g3 h
    obtain ⟨n, rfl⟩ : ∃ n1, n = n1 + 1 := ⟨n - 1, by omega⟩
    replace hn : f ≤ n := Nat.le_of_succ_le_succ hn
    have hN := Nat.le_trans (Nat.le_of_succ_le hF) hN
    replace h := qa_iload (n := 3) (q := 35) (qa_d rfl h) rfl g3
    replace h := qa_iload (n := 2) (q := 36) (qa_e rfl h) rfl g2
    by_cases c1 : s < l2
    · replace h := qa_iff (q := 39) (qa_e rfl h) rfl (qa_F_ge c1)
      replace h := qa_iload (n := 3) (q := 40) (qa_e rfl h) rfl g3
      replace h := qa_aload (n := 0) (q := 41) (qa_e rfl h) rfl g0
      replace h := qa_gi (j := 0) (q := 44) (qa_e rfl h) rfl hM es rfl (by decide)
      by_cases c2 : (σ 99 0) < s
      · replace h := qa_ift (q := 81) (qa_e rfl h) rfl (qa_T_gt c2)
        replace h := qa_iload (n := 3) (q := 82) (qa_e rfl h) rfl g3
        have er := qa_ri (qa_e rfl h)
        subst er
        have e0 : mc_248_99_p34 N l1 l2 σ s = .inr (.inl s) := by exact Eq.trans (if_pos c1) (Eq.trans (if_pos c2) (rfl))
        rw [qa_whr e0]
        exact ⟨fun b hb => (by have e := Sum.inl.inj hb; subst e; exact ⟨rfl, hM, es⟩), fun b hb => nomatch hb⟩
      · replace h := qa_iff (q := 47) (qa_e rfl h) rfl (qa_F_gt c2)
        replace h := qa_iload (n := 3) (q := 48) (qa_e rfl h) rfl g3
        obtain ⟨lv, M, h, hM, es, g0, g1, g2, g3⟩ : ∃ lv M, q4_run f 248 72 lv [.int ((if s = (0 : Int32) then (σ 109 l1.toNatClampNeg) else (σ 108 ((((4 : Int32) * s) - (4 : Int32)) + l1).toNatClampNeg)))] M 0 0 = some r ∧ qa_O M ∧ qa_s M = σ ∧ q4_get lv 0 = some (.ref 99) ∧ q4_get lv 1 = some (.int (l1)) ∧ q4_get lv 2 = some (.int (l2)) ∧ q4_get lv 3 = some (.int (s)) := by
          by_cases c3 : s = (0 : Int32)
          · replace h := qa_icf (q := 51) (qa_e rfl h) rfl (qa_F_ne c3)
            replace h := qa_aload (n := 0) (q := 52) (qa_e rfl h) rfl g0
            replace h := qa_gr (b := 109) (j := 12) (q := 55) (qa_e rfl h) rfl hM rfl (by decide)
            replace h := qa_iload (n := 1) (q := 56) (qa_e rfl h) rfl g1
            replace h := qa_iaload (jn := l1.toNatClampNeg) (q := 57) (qa_e rfl h) rfl hM es rfl
            replace h := qa_goto (q := 72) (qa_e rfl h) rfl
            exact ⟨lv, M, (qa_hi1 c3 h), hM, es, g0, g1, g2, g3⟩
          · replace h := qa_ict (q := 60) (qa_e rfl h) rfl (qa_T_ne c3)
            replace h := qa_aload (n := 0) (q := 61) (qa_e rfl h) rfl g0
            replace h := qa_gr (b := 108) (j := 11) (q := 64) (qa_e rfl h) rfl hM rfl (by decide)
            replace h := qa_push (z := (4 : Int32)) (q := 65) (qa_e rfl h) rfl (by decide)
            replace h := qa_iload (n := 3) (q := 66) (qa_e rfl h) rfl g3
            replace h := qa_imul (q := 67) (qa_e rfl h) rfl
            replace h := qa_push (z := (4 : Int32)) (q := 68) (qa_e rfl h) rfl (by decide)
            replace h := qa_isub (q := 69) (qa_e rfl h) rfl
            replace h := qa_iload (n := 1) (q := 70) (qa_e rfl h) rfl g1
            replace h := qa_iadd (q := 71) (qa_e rfl h) rfl
            replace h := qa_iaload (jn := ((((4 : Int32) * s) - (4 : Int32)) + l1).toNatClampNeg) (q := 72) (qa_e rfl h) rfl hM es rfl
            exact ⟨lv, M, (qa_hi0 c3 h), hM, es, g0, g1, g2, g3⟩
        replace h := qa_aload (n := 0) (q := 73) (qa_e rfl h) rfl g0
        replace h := qa_gr (b := 122) (j := 34) (q := 76) (qa_e rfl h) rfl hM rfl (by decide)
        replace h := qa_iload (n := 3) (q := 77) (qa_e rfl h) rfl g3
        replace h := qa_iaload (jn := s.toNatClampNeg) (q := 78) (qa_e rfl h) rfl hM es rfl
        by_cases c4 : (if s = (0 : Int32) then (σ 109 l1.toNatClampNeg) else (σ 108 ((((4 : Int32) * s) - (4 : Int32)) + l1).toNatClampNeg)) = (σ 122 s.toNatClampNeg)
        · replace h := qa_ift (q := 83) (qa_e rfl h) rfl (qa_T_eq c4)
          obtain ⟨lv, h, g, T⟩ := qa_iinc (n := 3) (z := (1 : Int32)) (q := 86) (qa_e rfl h) rfl (by decide) g3
          replace g0 := T _ _ g0 (by decide) (Or.inr rfl)
          replace g1 := T _ _ g1 (by decide) (Or.inr rfl)
          replace g2 := T _ _ g2 (by decide) (Or.inr rfl)
          replace g3 := g
          clear g T
          replace h := qa_goto (q := 34) (qa_e rfl h) rfl
          have e0 : mc_248_99_p34 N l1 l2 σ s = .inl (s + (1 : Int32)) := by exact Eq.trans (if_pos c1) (Eq.trans (if_neg c2) (Eq.trans (if_pos c4) (rfl)))
          rw [qa_whl e0]
          exact ih n hn (Nat.le_of_succ_le hF) (s + (1 : Int32)) _ _ hM es g0 g1 g2 g3 h
        · replace h := qa_iff (q := 81) (qa_e rfl h) rfl (qa_F_eq c4)
          replace h := qa_iload (n := 3) (q := 82) (qa_e rfl h) rfl g3
          have er := qa_ri (qa_e rfl h)
          subst er
          have e0 : mc_248_99_p34 N l1 l2 σ s = .inr (.inl s) := by exact Eq.trans (if_pos c1) (Eq.trans (if_neg c2) (Eq.trans (if_neg c4) (rfl)))
          rw [qa_whr e0]
          exact ⟨fun b hb => (by have e := Sum.inl.inj hb; subst e; exact ⟨rfl, hM, es⟩), fun b hb => nomatch hb⟩
    · replace h := qa_ift (q := 89) (qa_e rfl h) rfl (qa_T_ge c1)
      have e0 : mc_248_99_p34 N l1 l2 σ s = .inr (.inr s) := by exact Eq.trans (if_neg c1) (rfl)
      rw [qa_whr e0]
      exact ⟨fun b hb => (nomatch hb), fun b hb => (by have e := Sum.inr.inj hb; subst e; exact ⟨_, _, q61_mono f F _ _ _ _ _ _ _ _ (Nat.le_of_succ_le hF) h, hM, es⟩)⟩
/-- BuriedBySevensModel, judge, (I)I -/
noncomputable def ma_248_99 (N : Nat) (a1 : Int32) (σ : qa_S) : Int32 × qa_S :=
  qa_in (qa_u σ 99 9 (0 : Int32)) fun m1 =>
  if (ma_165 a1) = (0 : Int32) then
    qa_in ((ma_152_99 (-1 : Int32) m1)) fun r3 =>
    (r3.1, r3.2)
  else
    qa_in (qa_u m1 99 35 (0 : Int32)) fun m4 =>
    qa_in ((ma_180_99 N m4)) fun m5 =>
    qa_in ((qa_wh (fun s => .inr s) (mc_248_99_p34 N a1 (m1 99 35) m5) N (0 : Int32))) fun r6 =>
    qa_cs r6
      (fun b7 =>
        (b7, m5))
      (fun b7 =>
        ((-9 : Int32), m5))
theorem mb_248_99 {f N : Nat} (hN : f ≤ N) {M : q4_M} {r : Option Value × q4_M} {σ : qa_S} {a1 : Int32} (hM : qa_O M) (es : qa_s M = σ) (h : q4_run f 248 0 (lv_args 0 [.ref 99, .int (a1)]) [] M 0 0 = some r) : r.1 = some (.int ((ma_248_99 N a1 σ).1)) ∧ qa_O r.2 ∧ qa_s r.2 = (ma_248_99 N a1 σ).2 := by
  obtain ⟨lv, el⟩ : ∃ l, l = lv_args 0 [.ref 99, .int (a1)] := ⟨_, rfl⟩
  have g0 : q4_get lv 0 = some (.ref 99) := by rw [el]; rfl
  have g1 : q4_get lv 1 = some (.int (a1)) := by rw [el]; rfl
  rw [← el] at h
  clear el
  replace h := qa_aload (n := 0) (q := 1) (qa_e rfl h) rfl g0
  replace h := qa_push (z := (0 : Int32)) (q := 2) (qa_e rfl h) rfl (by decide)
  obtain ⟨m1, em1⟩ : ∃ x, x = qa_u σ 99 9 (0 : Int32) := ⟨_, rfl⟩
  obtain ⟨M, h, hM, es⟩ := qa_pf (j := 9) (q := 5) (qa_e rfl h) rfl hM es rfl (by decide)
  rw [← em1] at es
  replace h := qa_iload (n := 1) (q := 6) (qa_e rfl h) rfl g1
  obtain ⟨M, h, hM, es⟩ := qa_c1 (y := 165) (as := [.int (a1)]) (rest := []) (i := .invokestatic 165) (q := 9) (qa_e rfl h) (Or.inr rfl) rfl rfl (by decide) rfl (fun r hc => mb_165 hM es hc)
  by_cases c2 : (ma_165 a1) = (0 : Int32)
  · replace h := qa_icf (q := 12) (qa_e rfl h) rfl (qa_F_ne c2)
    replace h := qa_aload (n := 0) (q := 13) (qa_e rfl h) rfl g0
    replace h := qa_push (z := (-1 : Int32)) (q := 14) (qa_e rfl h) rfl (by decide)
    obtain ⟨r3, er3⟩ : ∃ x, x = (ma_152_99 (-1 : Int32) m1) := ⟨_, rfl⟩
    obtain ⟨M, h, hM, es⟩ := qa_c1 (y := 152) (as := [.ref 99, .int ((-1 : Int32))]) (rest := []) (i := .invokevirtual 152) (q := 17) (qa_e rfl h) (Or.inl rfl) rfl rfl (by decide) rfl (fun r hc => mb_152_99 hM es hc)
    rw [← er3] at h es
    have er := qa_ri (qa_e rfl h)
    subst er
    have e0 : ma_248_99 N a1 σ = (r3.1, r3.2) := by exact Eq.trans (qa_ie em1) (Eq.trans (if_pos c2) (Eq.trans (qa_ie er3) (rfl)))
    rw [e0]
    exact ⟨rfl, hM, es⟩
  · replace h := qa_ict (q := 18) (qa_e rfl h) rfl (qa_T_ne c2)
    replace h := qa_aload (n := 0) (q := 19) (qa_e rfl h) rfl g0
    replace h := qa_gi (j := 35) (q := 22) (qa_e rfl h) rfl hM es rfl (by decide)
    obtain ⟨lv, h, g, T⟩ := qa_istore (n := 2) (q := 23) (qa_e rfl h) rfl
    replace g0 := T _ _ g0 (by decide) (Or.inr rfl)
    replace g1 := T _ _ g1 (by decide) (Or.inr rfl)
    have g2 := g
    clear g T
    replace h := qa_aload (n := 0) (q := 24) (qa_e rfl h) rfl g0
    replace h := qa_push (z := (0 : Int32)) (q := 25) (qa_e rfl h) rfl (by decide)
    obtain ⟨m4, em4⟩ : ∃ x, x = qa_u m1 99 35 (0 : Int32) := ⟨_, rfl⟩
    obtain ⟨M, h, hM, es⟩ := qa_pf (j := 35) (q := 28) (qa_e rfl h) rfl hM es rfl (by decide)
    rw [← em4] at es
    replace h := qa_aload (n := 0) (q := 29) (qa_e rfl h) rfl g0
    obtain ⟨m5, em5⟩ : ∃ x, x = (ma_180_99 N m4) := ⟨_, rfl⟩
    obtain ⟨M, h, hM, es⟩ := qa_c0 (y := 180) (as := [.ref 99]) (rest := []) (i := .invokevirtual 180) (q := 32) (qa_e rfl h) (Or.inl rfl) rfl rfl (by decide) rfl (fun r hc => mb_180_99 hN hM es hc)
    rw [← em5] at es
    replace h := qa_push (z := (0 : Int32)) (q := 33) (qa_e rfl h) rfl (by decide)
    obtain ⟨lv, h, g, T⟩ := qa_istore (n := 3) (q := 34) (qa_e rfl h) rfl
    replace g0 := T _ _ g0 (by decide) (Or.inr rfl)
    replace g1 := T _ _ g1 (by decide) (Or.inr rfl)
    replace g2 := T _ _ g2 (by decide) (Or.inr rfl)
    have g3 := g
    clear g T
    obtain ⟨r6, er6⟩ : ∃ x, x = (qa_wh (fun s => .inr s) (mc_248_99_p34 N a1 (m1 99 35) m5) N (0 : Int32)) := ⟨_, rfl⟩
    have L := md_248_99_p34 (l1 := a1) (l2 := (m1 99 35)) (σ := m5) (F := f) (N := N) (r := r) hN f N hN (Nat.le_refl f) (0 : Int32) _ _ hM es g0 g1 g2 g3 h
    rw [← er6] at L
    rcases qr6 : r6 with b7 | b7
    · obtain ⟨h, hM, es⟩ := L.1 b7 qr6
      have e0 : ma_248_99 N a1 σ = (b7, m5) := by exact Eq.trans (qa_ie em1) (Eq.trans (if_neg c2) (Eq.trans (qa_ie em4) (Eq.trans (qa_ie em5) (Eq.trans (qa_ie er6) (Eq.trans (qa_csl qr6 _ _) (rfl))))))
      rw [e0]
      exact ⟨h, hM, es⟩
    · obtain ⟨lv, M, h, hM, es⟩ := L.2 b7 qr6
      replace h := qa_push (z := (-9 : Int32)) (q := 91) (qa_e rfl h) rfl (by decide)
      have er := qa_ri (qa_e rfl h)
      subst er
      have e0 : ma_248_99 N a1 σ = ((-9 : Int32), m5) := by exact Eq.trans (qa_ie em1) (Eq.trans (if_neg c2) (Eq.trans (qa_ie em4) (Eq.trans (qa_ie em5) (Eq.trans (qa_ie er6) (Eq.trans (qa_csr qr6 _ _) (rfl))))))
      rw [e0]
      exact ⟨rfl, hM, es⟩
/-- BuriedBySevensModel, clear, ()I -/
noncomputable def ma_249_99 (σ : qa_S) : Int32 × qa_S :=
  qa_in (qa_u σ 99 9 (0 : Int32)) fun m1 =>
  qa_in (qa_u m1 99 35 (0 : Int32)) fun m2 =>
  ((m1 99 35), m2)
theorem mb_249_99 {f : Nat} {M : q4_M} {r : Option Value × q4_M} {σ : qa_S} (hM : qa_O M) (es : qa_s M = σ) (h : q4_run f 249 0 (lv_args 0 [.ref 99]) [] M 0 0 = some r) : r.1 = some (.int ((ma_249_99 σ).1)) ∧ qa_O r.2 ∧ qa_s r.2 = (ma_249_99 σ).2 := by
  obtain ⟨lv, el⟩ : ∃ l, l = lv_args 0 [.ref 99] := ⟨_, rfl⟩
  have g0 : q4_get lv 0 = some (.ref 99) := by rw [el]; rfl
  rw [← el] at h
  clear el
  replace h := qa_aload (n := 0) (q := 1) (qa_e rfl h) rfl g0
  replace h := qa_push (z := (0 : Int32)) (q := 2) (qa_e rfl h) rfl (by decide)
  obtain ⟨m1, em1⟩ : ∃ x, x = qa_u σ 99 9 (0 : Int32) := ⟨_, rfl⟩
  obtain ⟨M, h, hM, es⟩ := qa_pf (j := 9) (q := 5) (qa_e rfl h) rfl hM es rfl (by decide)
  rw [← em1] at es
  replace h := qa_aload (n := 0) (q := 6) (qa_e rfl h) rfl g0
  replace h := qa_gi (j := 35) (q := 9) (qa_e rfl h) rfl hM es rfl (by decide)
  obtain ⟨lv, h, g, T⟩ := qa_istore (n := 1) (q := 10) (qa_e rfl h) rfl
  replace g0 := T _ _ g0 (by decide) (Or.inr rfl)
  have g1 := g
  clear g T
  replace h := qa_aload (n := 0) (q := 11) (qa_e rfl h) rfl g0
  replace h := qa_push (z := (0 : Int32)) (q := 12) (qa_e rfl h) rfl (by decide)
  obtain ⟨m2, em2⟩ : ∃ x, x = qa_u m1 99 35 (0 : Int32) := ⟨_, rfl⟩
  obtain ⟨M, h, hM, es⟩ := qa_pf (j := 35) (q := 15) (qa_e rfl h) rfl hM es rfl (by decide)
  rw [← em2] at es
  replace h := qa_iload (n := 1) (q := 16) (qa_e rfl h) rfl g1
  have er := qa_ri (qa_e rfl h)
  subst er
  have e0 : ma_249_99 σ = ((m1 99 35), m2) := by exact Eq.trans (qa_ie em1) (Eq.trans (qa_ie em2) (rfl))
  rw [e0]
  exact ⟨rfl, hM, es⟩
noncomputable def mc_250_99_p64 (N : Nat) (l1 : Int32) (l3 : Int32) (l6 : Int32) (l7 : Int32) (l8 : Int32) (s : Int32 × Int32 × Int32 × qa_S) : (Int32 × Int32 × Int32 × qa_S) ⊕ (Int32 × Int32 × Int32 × qa_S) :=
  if s.1 < (s.2.2.2 99 0) then
    qa_in (qa_u s.2.2.2 103 s.1.toNatClampNeg (((((s.2.1 * (1103515245 : Int32)) + (12345 : Int32)) &&& (2147483647 : Int32)) / (65536 : Int32)) - ((((s.2.1 * (1103515245 : Int32)) + (12345 : Int32)) &&& (2147483647 : Int32)) / (65536 : Int32)) / (3 : Int32) * (3 : Int32))) fun m2 =>
    .inl ((s.1 + (1 : Int32)), ((s.2.1 * (1103515245 : Int32)) + (12345 : Int32)), (s.2.2.1 + (m2 103 s.1.toNatClampNeg)), m2)
  else
    .inr (s.1, s.2.1, s.2.2.1, s.2.2.2)
theorem md_250_99_p64 {N F : Nat} {r : Option Value × q4_M} {l1 : Int32} {l3 : Int32} {l6 : Int32} {l7 : Int32} {l8 : Int32} (hN : F ≤ N) : ∀ f n, f ≤ n → f ≤ F → ∀ (s : Int32 × Int32 × Int32 × qa_S) (lv : List (Nat × Value)) (M : q4_M), qa_O M → qa_s M = s.2.2.2 → q4_get lv 0 = some (.ref 99) → q4_get lv 1 = some (.int (l1)) → q4_get lv 3 = some (.int (l3)) → q4_get lv 5 = some (.int (s.2.1)) → q4_get lv 6 = some (.int (l6)) → q4_get lv 7 = some (.int (l7)) → q4_get lv 8 = some (.int (l8)) → q4_get lv 9 = some (.int (s.2.2.1)) → q4_get lv 10 = some (.int (s.1)) → q4_run f 250 64 lv [] M 0 0 = some r → ∃ lv M, q4_run F 250 122 lv [] M 0 0 = some r ∧ qa_O M ∧ qa_s M = (qa_wh (fun s => s) (mc_250_99_p64 N l1 l3 l6 l7 l8) n s).2.2.2 ∧ q4_get lv 0 = some (.ref 99) ∧ q4_get lv 1 = some (.int (l1)) ∧ q4_get lv 3 = some (.int (l3)) ∧ q4_get lv 5 = some (.int ((qa_wh (fun s => s) (mc_250_99_p64 N l1 l3 l6 l7 l8) n s).2.1)) ∧ q4_get lv 6 = some (.int (l6)) ∧ q4_get lv 7 = some (.int (l7)) ∧ q4_get lv 8 = some (.int (l8)) ∧ q4_get lv 9 = some (.int ((qa_wh (fun s => s) (mc_250_99_p64 N l1 l3 l6 l7 l8) n s).2.2.1)) := by
  intro f
  induction f with
  | zero => intro n _ _ s lv M hM es _ _ _ _ _ _ _ _ _ h; cases h
  | succ f ih =>
    intro n hn hF s lv M hM es g0 g1 g3 g5 g6 g7 g8 g9 g10 h
    obtain ⟨n, rfl⟩ : ∃ n1, n = n1 + 1 := ⟨n - 1, by omega⟩
    replace hn : f ≤ n := Nat.le_of_succ_le_succ hn
    have hN := Nat.le_trans (Nat.le_of_succ_le hF) hN
    replace h := qa_iload (n := 10) (q := 66) (qa_d rfl h) rfl g10
    replace h := qa_aload (n := 0) (q := 67) (qa_e rfl h) rfl g0
    replace h := qa_gi (j := 0) (q := 70) (qa_e rfl h) rfl hM es rfl (by decide)
    by_cases c1 : s.1 < (s.2.2.2 99 0)
    · replace h := qa_iff (q := 73) (qa_e rfl h) rfl (qa_F_ge c1)
      replace h := qa_iload (n := 5) (q := 75) (qa_e rfl h) rfl g5
      replace h := qa_push (z := (1103515245 : Int32)) (q := 78) (qa_e rfl h) rfl (by decide)
      replace h := qa_imul (q := 79) (qa_e rfl h) rfl
      replace h := qa_push (z := (12345 : Int32)) (q := 82) (qa_e rfl h) rfl (by decide)
      replace h := qa_iadd (q := 83) (qa_e rfl h) rfl
      obtain ⟨lv, h, g, T⟩ := qa_istore (n := 5) (q := 85) (qa_e rfl h) rfl
      replace g0 := T _ _ g0 (by decide) (Or.inr rfl)
      replace g1 := T _ _ g1 (by decide) (Or.inr rfl)
      replace g3 := T _ _ g3 (by decide) (Or.inr rfl)
      replace g6 := T _ _ g6 (by decide) (Or.inr rfl)
      replace g7 := T _ _ g7 (by decide) (Or.inr rfl)
      replace g8 := T _ _ g8 (by decide) (Or.inr rfl)
      replace g9 := T _ _ g9 (by decide) (Or.inr rfl)
      replace g10 := T _ _ g10 (by decide) (Or.inr rfl)
      have g5 := g
      clear g T
      replace h := qa_aload (n := 0) (q := 86) (qa_e rfl h) rfl g0
      replace h := qa_gr (b := 103) (j := 4) (q := 89) (qa_e rfl h) rfl hM rfl (by decide)
      replace h := qa_iload (n := 10) (q := 91) (qa_e rfl h) rfl g10
      replace h := qa_iload (n := 5) (q := 93) (qa_e rfl h) rfl g5
      replace h := qa_push (z := (2147483647 : Int32)) (q := 96) (qa_e rfl h) rfl (by decide)
      replace h := qa_iand (q := 97) (qa_e rfl h) rfl
      replace h := qa_push (z := (65536 : Int32)) (q := 100) (qa_e rfl h) rfl (by decide)
      replace h := qa_idiv (q := 101) (qa_e rfl h) rfl
      replace h := qa_push (z := (3 : Int32)) (q := 102) (qa_e rfl h) rfl (by decide)
      replace h := qa_irem (q := 103) (qa_e rfl h) rfl
      obtain ⟨m2, em2⟩ : ∃ x, x = qa_u s.2.2.2 103 s.1.toNatClampNeg (((((s.2.1 * (1103515245 : Int32)) + (12345 : Int32)) &&& (2147483647 : Int32)) / (65536 : Int32)) - ((((s.2.1 * (1103515245 : Int32)) + (12345 : Int32)) &&& (2147483647 : Int32)) / (65536 : Int32)) / (3 : Int32) * (3 : Int32)) := ⟨_, rfl⟩
      obtain ⟨M, h, hM, es⟩ := qa_iastore (jn := s.1.toNatClampNeg) (q := 104) (qa_e rfl h) rfl hM es rfl
      rw [← em2] at es
      replace h := qa_iload (n := 9) (q := 106) (qa_e rfl h) rfl g9
      replace h := qa_aload (n := 0) (q := 107) (qa_e rfl h) rfl g0
      replace h := qa_gr (b := 103) (j := 4) (q := 110) (qa_e rfl h) rfl hM rfl (by decide)
      replace h := qa_iload (n := 10) (q := 112) (qa_e rfl h) rfl g10
      replace h := qa_iaload (jn := s.1.toNatClampNeg) (q := 113) (qa_e rfl h) rfl hM es rfl
      replace h := qa_iadd (q := 114) (qa_e rfl h) rfl
      obtain ⟨lv, h, g, T⟩ := qa_istore (n := 9) (q := 116) (qa_e rfl h) rfl
      replace g0 := T _ _ g0 (by decide) (Or.inr rfl)
      replace g1 := T _ _ g1 (by decide) (Or.inr rfl)
      replace g3 := T _ _ g3 (by decide) (Or.inr rfl)
      replace g5 := T _ _ g5 (by decide) (Or.inr rfl)
      replace g6 := T _ _ g6 (by decide) (Or.inr rfl)
      replace g7 := T _ _ g7 (by decide) (Or.inr rfl)
      replace g8 := T _ _ g8 (by decide) (Or.inr rfl)
      replace g10 := T _ _ g10 (by decide) (Or.inr rfl)
      have g9 := g
      clear g T
      obtain ⟨lv, h, g, T⟩ := qa_iinc (n := 10) (z := (1 : Int32)) (q := 119) (qa_e rfl h) rfl (by decide) g10
      replace g0 := T _ _ g0 (by decide) (Or.inr rfl)
      replace g1 := T _ _ g1 (by decide) (Or.inr rfl)
      replace g3 := T _ _ g3 (by decide) (Or.inr rfl)
      replace g5 := T _ _ g5 (by decide) (Or.inr rfl)
      replace g6 := T _ _ g6 (by decide) (Or.inr rfl)
      replace g7 := T _ _ g7 (by decide) (Or.inr rfl)
      replace g8 := T _ _ g8 (by decide) (Or.inr rfl)
      replace g9 := T _ _ g9 (by decide) (Or.inr rfl)
      replace g10 := g
      clear g T
      replace h := qa_goto (q := 64) (qa_e rfl h) rfl
      have e0 : mc_250_99_p64 N l1 l3 l6 l7 l8 s = .inl ((s.1 + (1 : Int32)), ((s.2.1 * (1103515245 : Int32)) + (12345 : Int32)), (s.2.2.1 + (m2 103 s.1.toNatClampNeg)), m2) := by exact Eq.trans (if_pos c1) (Eq.trans (qa_ie em2) (rfl))
      rw [qa_whl e0]
      exact ih n hn (Nat.le_of_succ_le hF) ((s.1 + (1 : Int32)), ((s.2.1 * (1103515245 : Int32)) + (12345 : Int32)), (s.2.2.1 + (m2 103 s.1.toNatClampNeg)), m2) _ _ hM es g0 g1 g3 g5 g6 g7 g8 g9 g10 h
    · replace h := qa_ift (q := 122) (qa_e rfl h) rfl (qa_T_ge c1)
      have e0 : mc_250_99_p64 N l1 l3 l6 l7 l8 s = .inr (s.1, s.2.1, s.2.2.1, s.2.2.2) := by exact Eq.trans (if_neg c1) (rfl)
      rw [qa_whr e0]
      exact ⟨_, _, q61_mono f F _ _ _ _ _ _ _ _ (Nat.le_of_succ_le hF) h, hM, es, g0, g1, g3, g5, g6, g7, g8, g9⟩
noncomputable def mc_250_99_p52 (N : Nat) (l1 : Int32) (l3 : Int32) (s : Int32 × Int32 × Int32 × Int32 × qa_S) : (Int32 × Int32 × Int32 × Int32 × qa_S) ⊕ (Int32 × Int32 × Int32 × Int32 × qa_S) :=
  if s.1 < l1 then
    qa_in ((qa_wh (fun s => s) (mc_250_99_p64 N l1 l3 s.2.2.1 s.2.2.2.1 s.1) N ((0 : Int32), s.2.1, (0 : Int32), s.2.2.2.2))) fun r2 =>
    qa_in ((ma_193_99 N r2.2.2.2)) fun r4 =>
    qa_in ((if r2.2.2.1 = (0 : Int32) then r2.2.2.2 else r4.2)) fun m5 =>
    .inl ((s.1 + (1 : Int32)), r2.2.1, (s.2.2.1 + (if r2.2.2.1 = (0 : Int32) then (0 : Int32) else r4.1)), (s.2.2.2.1 + (if (if r2.2.2.1 = (0 : Int32) then (0 : Int32) else r4.1) = (1 : Int32) then (1 : Int32) else (0 : Int32))), m5)
  else
    .inr (s.1, s.2.1, s.2.2.1, s.2.2.2.1, s.2.2.2.2)
theorem md_250_99_p52 {N F : Nat} {r : Option Value × q4_M} {l1 : Int32} {l3 : Int32} (hN : F ≤ N) : ∀ f n, f ≤ n → f ≤ F → ∀ (s : Int32 × Int32 × Int32 × Int32 × qa_S) (lv : List (Nat × Value)) (M : q4_M), qa_O M → qa_s M = s.2.2.2.2 → q4_get lv 0 = some (.ref 99) → q4_get lv 1 = some (.int (l1)) → q4_get lv 3 = some (.int (l3)) → q4_get lv 5 = some (.int (s.2.1)) → q4_get lv 6 = some (.int (s.2.2.1)) → q4_get lv 7 = some (.int (s.2.2.2.1)) → q4_get lv 8 = some (.int (s.1)) → q4_run f 250 52 lv [] M 0 0 = some r → ∃ lv M, q4_run F 250 166 lv [] M 0 0 = some r ∧ qa_O M ∧ qa_s M = (qa_wh (fun s => s) (mc_250_99_p52 N l1 l3) n s).2.2.2.2 ∧ q4_get lv 0 = some (.ref 99) ∧ q4_get lv 3 = some (.int (l3)) ∧ q4_get lv 6 = some (.int ((qa_wh (fun s => s) (mc_250_99_p52 N l1 l3) n s).2.2.1)) ∧ q4_get lv 7 = some (.int ((qa_wh (fun s => s) (mc_250_99_p52 N l1 l3) n s).2.2.2.1)) := by
  intro f
  induction f with
  | zero => intro n _ _ s lv M hM es _ _ _ _ _ _ _ h; cases h
  | succ f ih =>
    intro n hn hF s lv M hM es g0 g1 g3 g5 g6 g7 g8 h
    obtain ⟨n, rfl⟩ : ∃ n1, n = n1 + 1 := ⟨n - 1, by omega⟩
    replace hn : f ≤ n := Nat.le_of_succ_le_succ hn
    have hN := Nat.le_trans (Nat.le_of_succ_le hF) hN
    replace h := qa_iload (n := 8) (q := 54) (qa_d rfl h) rfl g8
    replace h := qa_iload (n := 1) (q := 55) (qa_e rfl h) rfl g1
    by_cases c1 : s.1 < l1
    · replace h := qa_iff (q := 58) (qa_e rfl h) rfl (qa_F_ge c1)
      replace h := qa_push (z := (0 : Int32)) (q := 59) (qa_e rfl h) rfl (by decide)
      obtain ⟨lv, h, g, T⟩ := qa_istore (n := 9) (q := 61) (qa_e rfl h) rfl
      replace g0 := T _ _ g0 (by decide) (Or.inr rfl)
      replace g1 := T _ _ g1 (by decide) (Or.inr rfl)
      replace g3 := T _ _ g3 (by decide) (Or.inr rfl)
      replace g5 := T _ _ g5 (by decide) (Or.inr rfl)
      replace g6 := T _ _ g6 (by decide) (Or.inr rfl)
      replace g7 := T _ _ g7 (by decide) (Or.inr rfl)
      replace g8 := T _ _ g8 (by decide) (Or.inr rfl)
      have g9 := g
      clear g T
      replace h := qa_push (z := (0 : Int32)) (q := 62) (qa_e rfl h) rfl (by decide)
      obtain ⟨lv, h, g, T⟩ := qa_istore (n := 10) (q := 64) (qa_e rfl h) rfl
      replace g0 := T _ _ g0 (by decide) (Or.inr rfl)
      replace g1 := T _ _ g1 (by decide) (Or.inr rfl)
      replace g3 := T _ _ g3 (by decide) (Or.inr rfl)
      replace g5 := T _ _ g5 (by decide) (Or.inr rfl)
      replace g6 := T _ _ g6 (by decide) (Or.inr rfl)
      replace g7 := T _ _ g7 (by decide) (Or.inr rfl)
      replace g8 := T _ _ g8 (by decide) (Or.inr rfl)
      replace g9 := T _ _ g9 (by decide) (Or.inr rfl)
      have g10 := g
      clear g T
      obtain ⟨r2, er2⟩ : ∃ x, x = (qa_wh (fun s => s) (mc_250_99_p64 N l1 l3 s.2.2.1 s.2.2.2.1 s.1) N ((0 : Int32), s.2.1, (0 : Int32), s.2.2.2.2)) := ⟨_, rfl⟩
      have L := md_250_99_p64 (l1 := l1) (l3 := l3) (l6 := s.2.2.1) (l7 := s.2.2.2.1) (l8 := s.1) (F := f) (N := N) (r := r) hN f N hN (Nat.le_refl f) ((0 : Int32), s.2.1, (0 : Int32), s.2.2.2.2) _ _ hM es g0 g1 g3 g5 g6 g7 g8 g9 g10 h
      rw [← er2] at L
      obtain ⟨lv, M, h, hM, es, g0, g1, g3, g5, g6, g7, g8, g9⟩ := L
      replace h := qa_iload (n := 9) (q := 124) (qa_e rfl h) rfl g9
      obtain ⟨r4, er4⟩ : ∃ x, x = (ma_193_99 N r2.2.2.2) := ⟨_, rfl⟩
      obtain ⟨m5, em5⟩ : ∃ x, x = (if r2.2.2.1 = (0 : Int32) then r2.2.2.2 else r4.2) := ⟨_, rfl⟩
      obtain ⟨lv, M, h, hM, es, g0, g1, g3, g5, g6, g7, g8⟩ : ∃ lv M, q4_run f 250 135 lv [.int ((if r2.2.2.1 = (0 : Int32) then (0 : Int32) else r4.1))] M 0 0 = some r ∧ qa_O M ∧ qa_s M = m5 ∧ q4_get lv 0 = some (.ref 99) ∧ q4_get lv 1 = some (.int (l1)) ∧ q4_get lv 3 = some (.int (l3)) ∧ q4_get lv 5 = some (.int (r2.2.1)) ∧ q4_get lv 6 = some (.int (s.2.2.1)) ∧ q4_get lv 7 = some (.int (s.2.2.2.1)) ∧ q4_get lv 8 = some (.int (s.1)) := by
        by_cases c3 : r2.2.2.1 = (0 : Int32)
        · replace h := qa_icf (q := 127) (qa_e rfl h) rfl (qa_F_ne c3)
          replace h := qa_push (z := (0 : Int32)) (q := 128) (qa_e rfl h) rfl (by decide)
          replace h := qa_goto (q := 135) (qa_e rfl h) rfl
          exact ⟨lv, M, (qa_hi1 c3 h), hM, ((qa_ms1 c3 es).trans em5.symm), g0, g1, g3, g5, g6, g7, g8⟩
        · replace h := qa_ict (q := 131) (qa_e rfl h) rfl (qa_T_ne c3)
          replace h := qa_aload (n := 0) (q := 132) (qa_e rfl h) rfl g0
          obtain ⟨M, h, hM, es⟩ := qa_c1 (y := 193) (as := [.ref 99]) (rest := []) (i := .invokevirtual 193) (q := 135) (qa_e rfl h) (Or.inl rfl) rfl rfl (by decide) rfl (fun r hc => mb_193_99 hN hM es hc)
          rw [← er4] at h es
          exact ⟨lv, M, (qa_hi0 c3 h), hM, ((qa_ms0 c3 es).trans em5.symm), g0, g1, g3, g5, g6, g7, g8⟩
      obtain ⟨lv, h, g, T⟩ := qa_istore (n := 10) (q := 137) (qa_e rfl h) rfl
      replace g0 := T _ _ g0 (by decide) (Or.inr rfl)
      replace g1 := T _ _ g1 (by decide) (Or.inr rfl)
      replace g3 := T _ _ g3 (by decide) (Or.inr rfl)
      replace g5 := T _ _ g5 (by decide) (Or.inr rfl)
      replace g6 := T _ _ g6 (by decide) (Or.inr rfl)
      replace g7 := T _ _ g7 (by decide) (Or.inr rfl)
      replace g8 := T _ _ g8 (by decide) (Or.inr rfl)
      have g10 := g
      clear g T
      replace h := qa_iload (n := 6) (q := 139) (qa_e rfl h) rfl g6
      replace h := qa_iload (n := 10) (q := 141) (qa_e rfl h) rfl g10
      replace h := qa_iadd (q := 142) (qa_e rfl h) rfl
      obtain ⟨lv, h, g, T⟩ := qa_istore (n := 6) (q := 144) (qa_e rfl h) rfl
      replace g0 := T _ _ g0 (by decide) (Or.inr rfl)
      replace g1 := T _ _ g1 (by decide) (Or.inr rfl)
      replace g3 := T _ _ g3 (by decide) (Or.inr rfl)
      replace g5 := T _ _ g5 (by decide) (Or.inr rfl)
      replace g7 := T _ _ g7 (by decide) (Or.inr rfl)
      replace g8 := T _ _ g8 (by decide) (Or.inr rfl)
      replace g10 := T _ _ g10 (by decide) (Or.inr rfl)
      have g6 := g
      clear g T
      replace h := qa_iload (n := 7) (q := 146) (qa_e rfl h) rfl g7
      replace h := qa_iload (n := 10) (q := 148) (qa_e rfl h) rfl g10
      replace h := qa_push (z := (1 : Int32)) (q := 149) (qa_e rfl h) rfl (by decide)
      obtain ⟨lv, M, h, hM, es, g0, g1, g3, g5, g6, g8⟩ : ∃ lv M, q4_run f 250 157 lv [.int ((if (if r2.2.2.1 = (0 : Int32) then (0 : Int32) else r4.1) = (1 : Int32) then (1 : Int32) else (0 : Int32))), .int (s.2.2.2.1)] M 0 0 = some r ∧ qa_O M ∧ qa_s M = m5 ∧ q4_get lv 0 = some (.ref 99) ∧ q4_get lv 1 = some (.int (l1)) ∧ q4_get lv 3 = some (.int (l3)) ∧ q4_get lv 5 = some (.int (r2.2.1)) ∧ q4_get lv 6 = some (.int ((s.2.2.1 + (if r2.2.2.1 = (0 : Int32) then (0 : Int32) else r4.1)))) ∧ q4_get lv 8 = some (.int (s.1)) := by
        by_cases c6 : (if r2.2.2.1 = (0 : Int32) then (0 : Int32) else r4.1) = (1 : Int32)
        · replace h := qa_iff (q := 152) (qa_e rfl h) rfl (qa_F_ne c6)
          replace h := qa_push (z := (1 : Int32)) (q := 153) (qa_e rfl h) rfl (by decide)
          replace h := qa_goto (q := 157) (qa_e rfl h) rfl
          exact ⟨lv, M, (qa_hi1 c6 h), hM, es, g0, g1, g3, g5, g6, g8⟩
        · replace h := qa_ift (q := 156) (qa_e rfl h) rfl (qa_T_ne c6)
          replace h := qa_push (z := (0 : Int32)) (q := 157) (qa_e rfl h) rfl (by decide)
          exact ⟨lv, M, (qa_hi0 c6 h), hM, es, g0, g1, g3, g5, g6, g8⟩
      replace h := qa_iadd (q := 158) (qa_e rfl h) rfl
      obtain ⟨lv, h, g, T⟩ := qa_istore (n := 7) (q := 160) (qa_e rfl h) rfl
      replace g0 := T _ _ g0 (by decide) (Or.inr rfl)
      replace g1 := T _ _ g1 (by decide) (Or.inr rfl)
      replace g3 := T _ _ g3 (by decide) (Or.inr rfl)
      replace g5 := T _ _ g5 (by decide) (Or.inr rfl)
      replace g6 := T _ _ g6 (by decide) (Or.inr rfl)
      replace g8 := T _ _ g8 (by decide) (Or.inr rfl)
      have g7 := g
      clear g T
      obtain ⟨lv, h, g, T⟩ := qa_iinc (n := 8) (z := (1 : Int32)) (q := 163) (qa_e rfl h) rfl (by decide) g8
      replace g0 := T _ _ g0 (by decide) (Or.inr rfl)
      replace g1 := T _ _ g1 (by decide) (Or.inr rfl)
      replace g3 := T _ _ g3 (by decide) (Or.inr rfl)
      replace g5 := T _ _ g5 (by decide) (Or.inr rfl)
      replace g6 := T _ _ g6 (by decide) (Or.inr rfl)
      replace g7 := T _ _ g7 (by decide) (Or.inr rfl)
      replace g8 := g
      clear g T
      replace h := qa_goto (q := 52) (qa_e rfl h) rfl
      have e0 : mc_250_99_p52 N l1 l3 s = .inl ((s.1 + (1 : Int32)), r2.2.1, (s.2.2.1 + (if r2.2.2.1 = (0 : Int32) then (0 : Int32) else r4.1)), (s.2.2.2.1 + (if (if r2.2.2.1 = (0 : Int32) then (0 : Int32) else r4.1) = (1 : Int32) then (1 : Int32) else (0 : Int32))), m5) := by exact Eq.trans (if_pos c1) (Eq.trans (qa_ie er2) (Eq.trans (qa_ie er4) (Eq.trans (qa_ie em5) (rfl))))
      rw [qa_whl e0]
      exact ih n hn (Nat.le_of_succ_le hF) ((s.1 + (1 : Int32)), r2.2.1, (s.2.2.1 + (if r2.2.2.1 = (0 : Int32) then (0 : Int32) else r4.1)), (s.2.2.2.1 + (if (if r2.2.2.1 = (0 : Int32) then (0 : Int32) else r4.1) = (1 : Int32) then (1 : Int32) else (0 : Int32))), m5) _ _ hM es g0 g1 g3 g5 g6 g7 g8 h
    · replace h := qa_ift (q := 166) (qa_e rfl h) rfl (qa_T_ge c1)
      have e0 : mc_250_99_p52 N l1 l3 s = .inr (s.1, s.2.1, s.2.2.1, s.2.2.2.1, s.2.2.2.2) := by exact Eq.trans (if_neg c1) (rfl)
      rw [qa_whr e0]
      exact ⟨_, _, q61_mono f F _ _ _ _ _ _ _ _ (Nat.le_of_succ_le hF) h, hM, es, g0, g3, g6, g7⟩
/-- BuriedBySevensModel, lots, (III)I -/
noncomputable def ma_250_99 (N : Nat) (a1 : Int32) (a2 : Int32) (a3 : Int32) (σ : qa_S) : Int32 × qa_S :=
  qa_in (qa_u σ 99 9 (0 : Int32)) fun m1 =>
  if (ma_201 (ma_175 a1 (1 : Int32) (20 : Int32)) a3 (1 : Int32)) < (0 : Int32) then
    qa_in ((ma_152_99 (ma_201 (ma_175 a1 (1 : Int32) (20 : Int32)) a3 (1 : Int32)) m1)) fun r3 =>
    (r3.1, r3.2)
  else
    qa_in ((ma_159_99_117 N (1 : Int32) m1)) fun m4 =>
    qa_in ((qa_wh (fun s => s) (mc_250_99_p52 N a1 a3) N ((0 : Int32), a2, (0 : Int32), (0 : Int32), m4))) fun r5 =>
    qa_in ((ma_159_99_117 N (0 : Int32) r5.2.2.2.2)) fun m6 =>
    ((if a3 = (0 : Int32) then r5.2.2.1 else r5.2.2.2.1), m6)
theorem mb_250_99 {f N : Nat} (hN : f ≤ N) {M : q4_M} {r : Option Value × q4_M} {σ : qa_S} {a1 : Int32} {a2 : Int32} {a3 : Int32} (hM : qa_O M) (es : qa_s M = σ) (h : q4_run f 250 0 (lv_args 0 [.ref 99, .int (a1), .int (a2), .int (a3)]) [] M 0 0 = some r) : r.1 = some (.int ((ma_250_99 N a1 a2 a3 σ).1)) ∧ qa_O r.2 ∧ qa_s r.2 = (ma_250_99 N a1 a2 a3 σ).2 := by
  obtain ⟨lv, el⟩ : ∃ l, l = lv_args 0 [.ref 99, .int (a1), .int (a2), .int (a3)] := ⟨_, rfl⟩
  have g0 : q4_get lv 0 = some (.ref 99) := by rw [el]; rfl
  have g1 : q4_get lv 1 = some (.int (a1)) := by rw [el]; rfl
  have g2 : q4_get lv 2 = some (.int (a2)) := by rw [el]; rfl
  have g3 : q4_get lv 3 = some (.int (a3)) := by rw [el]; rfl
  rw [← el] at h
  clear el
  replace h := qa_aload (n := 0) (q := 1) (qa_e rfl h) rfl g0
  replace h := qa_push (z := (0 : Int32)) (q := 2) (qa_e rfl h) rfl (by decide)
  obtain ⟨m1, em1⟩ : ∃ x, x = qa_u σ 99 9 (0 : Int32) := ⟨_, rfl⟩
  obtain ⟨M, h, hM, es⟩ := qa_pf (j := 9) (q := 5) (qa_e rfl h) rfl hM es rfl (by decide)
  rw [← em1] at es
  replace h := qa_iload (n := 1) (q := 6) (qa_e rfl h) rfl g1
  replace h := qa_push (z := (1 : Int32)) (q := 7) (qa_e rfl h) rfl (by decide)
  replace h := qa_push (z := (20 : Int32)) (q := 9) (qa_e rfl h) rfl (by decide)
  obtain ⟨M, h, hM, es⟩ := qa_c1 (y := 175) (as := [.int (a1), .int ((1 : Int32)), .int ((20 : Int32))]) (rest := []) (i := .invokestatic 175) (q := 12) (qa_e rfl h) (Or.inr rfl) rfl rfl (by decide) rfl (fun r hc => mb_175 hM es hc)
  replace h := qa_iload (n := 3) (q := 13) (qa_e rfl h) rfl g3
  replace h := qa_push (z := (1 : Int32)) (q := 14) (qa_e rfl h) rfl (by decide)
  obtain ⟨M, h, hM, es⟩ := qa_c1 (y := 201) (as := [.int ((ma_175 a1 (1 : Int32) (20 : Int32))), .int (a3), .int ((1 : Int32))]) (rest := []) (i := .invokestatic 201) (q := 17) (qa_e rfl h) (Or.inr rfl) rfl rfl (by decide) rfl (fun r hc => mb_201 hM es hc)
  obtain ⟨lv, h, g, T⟩ := qa_istore (n := 4) (q := 19) (qa_e rfl h) rfl
  replace g0 := T _ _ g0 (by decide) (Or.inr rfl)
  replace g1 := T _ _ g1 (by decide) (Or.inr rfl)
  replace g2 := T _ _ g2 (by decide) (Or.inr rfl)
  replace g3 := T _ _ g3 (by decide) (Or.inr rfl)
  have g4 := g
  clear g T
  replace h := qa_iload (n := 4) (q := 21) (qa_e rfl h) rfl g4
  by_cases c2 : (ma_201 (ma_175 a1 (1 : Int32) (20 : Int32)) a3 (1 : Int32)) < (0 : Int32)
  · replace h := qa_icf (q := 24) (qa_e rfl h) rfl (qa_F_ge c2)
    replace h := qa_aload (n := 0) (q := 25) (qa_e rfl h) rfl g0
    replace h := qa_iload (n := 4) (q := 27) (qa_e rfl h) rfl g4
    obtain ⟨r3, er3⟩ : ∃ x, x = (ma_152_99 (ma_201 (ma_175 a1 (1 : Int32) (20 : Int32)) a3 (1 : Int32)) m1) := ⟨_, rfl⟩
    obtain ⟨M, h, hM, es⟩ := qa_c1 (y := 152) (as := [.ref 99, .int ((ma_201 (ma_175 a1 (1 : Int32) (20 : Int32)) a3 (1 : Int32)))]) (rest := []) (i := .invokevirtual 152) (q := 30) (qa_e rfl h) (Or.inl rfl) rfl rfl (by decide) rfl (fun r hc => mb_152_99 hM es hc)
    rw [← er3] at h es
    have er := qa_ri (qa_e rfl h)
    subst er
    have e0 : ma_250_99 N a1 a2 a3 σ = (r3.1, r3.2) := by exact Eq.trans (qa_ie em1) (Eq.trans (if_pos c2) (Eq.trans (qa_ie er3) (rfl)))
    rw [e0]
    exact ⟨rfl, hM, es⟩
  · replace h := qa_ict (q := 31) (qa_e rfl h) rfl (qa_T_ge c2)
    replace h := qa_iload (n := 2) (q := 32) (qa_e rfl h) rfl g2
    obtain ⟨lv, h, g, T⟩ := qa_istore (n := 5) (q := 34) (qa_e rfl h) rfl
    replace g0 := T _ _ g0 (by decide) (Or.inr rfl)
    replace g1 := T _ _ g1 (by decide) (Or.inr rfl)
    replace g3 := T _ _ g3 (by decide) (Or.inr rfl)
    have g5 := g
    clear g T
    replace h := qa_push (z := (0 : Int32)) (q := 35) (qa_e rfl h) rfl (by decide)
    obtain ⟨lv, h, g, T⟩ := qa_istore (n := 6) (q := 37) (qa_e rfl h) rfl
    replace g0 := T _ _ g0 (by decide) (Or.inr rfl)
    replace g1 := T _ _ g1 (by decide) (Or.inr rfl)
    replace g3 := T _ _ g3 (by decide) (Or.inr rfl)
    replace g5 := T _ _ g5 (by decide) (Or.inr rfl)
    have g6 := g
    clear g T
    replace h := qa_push (z := (0 : Int32)) (q := 38) (qa_e rfl h) rfl (by decide)
    obtain ⟨lv, h, g, T⟩ := qa_istore (n := 7) (q := 40) (qa_e rfl h) rfl
    replace g0 := T _ _ g0 (by decide) (Or.inr rfl)
    replace g1 := T _ _ g1 (by decide) (Or.inr rfl)
    replace g3 := T _ _ g3 (by decide) (Or.inr rfl)
    replace g5 := T _ _ g5 (by decide) (Or.inr rfl)
    replace g6 := T _ _ g6 (by decide) (Or.inr rfl)
    have g7 := g
    clear g T
    replace h := qa_aload (n := 0) (q := 41) (qa_e rfl h) rfl g0
    replace h := qa_aload (n := 0) (q := 42) (qa_e rfl h) rfl g0
    replace h := qa_gr (b := 117) (j := 24) (q := 45) (qa_e rfl h) rfl hM rfl (by decide)
    replace h := qa_push (z := (1 : Int32)) (q := 46) (qa_e rfl h) rfl (by decide)
    obtain ⟨m4, em4⟩ : ∃ x, x = (ma_159_99_117 N (1 : Int32) m1) := ⟨_, rfl⟩
    obtain ⟨M, h, hM, es⟩ := qa_c0 (y := 159) (as := [.ref 99, .ref 117, .int ((1 : Int32))]) (rest := []) (i := .invokevirtual 159) (q := 49) (qa_e rfl h) (Or.inl rfl) rfl rfl (by decide) rfl (fun r hc => mb_159_99_117 hN hM es hc)
    rw [← em4] at es
    replace h := qa_push (z := (0 : Int32)) (q := 50) (qa_e rfl h) rfl (by decide)
    obtain ⟨lv, h, g, T⟩ := qa_istore (n := 8) (q := 52) (qa_e rfl h) rfl
    replace g0 := T _ _ g0 (by decide) (Or.inr rfl)
    replace g1 := T _ _ g1 (by decide) (Or.inr rfl)
    replace g3 := T _ _ g3 (by decide) (Or.inr rfl)
    replace g5 := T _ _ g5 (by decide) (Or.inr rfl)
    replace g6 := T _ _ g6 (by decide) (Or.inr rfl)
    replace g7 := T _ _ g7 (by decide) (Or.inr rfl)
    have g8 := g
    clear g T
    obtain ⟨r5, er5⟩ : ∃ x, x = (qa_wh (fun s => s) (mc_250_99_p52 N a1 a3) N ((0 : Int32), a2, (0 : Int32), (0 : Int32), m4)) := ⟨_, rfl⟩
    have L := md_250_99_p52 (l1 := a1) (l3 := a3) (F := f) (N := N) (r := r) hN f N hN (Nat.le_refl f) ((0 : Int32), a2, (0 : Int32), (0 : Int32), m4) _ _ hM es g0 g1 g3 g5 g6 g7 g8 h
    rw [← er5] at L
    obtain ⟨lv, M, h, hM, es, g0, g3, g6, g7⟩ := L
    replace h := qa_aload (n := 0) (q := 167) (qa_e rfl h) rfl g0
    replace h := qa_aload (n := 0) (q := 168) (qa_e rfl h) rfl g0
    replace h := qa_gr (b := 117) (j := 24) (q := 171) (qa_e rfl h) rfl hM rfl (by decide)
    replace h := qa_push (z := (0 : Int32)) (q := 172) (qa_e rfl h) rfl (by decide)
    obtain ⟨m6, em6⟩ : ∃ x, x = (ma_159_99_117 N (0 : Int32) r5.2.2.2.2) := ⟨_, rfl⟩
    obtain ⟨M, h, hM, es⟩ := qa_c0 (y := 159) (as := [.ref 99, .ref 117, .int ((0 : Int32))]) (rest := []) (i := .invokevirtual 159) (q := 175) (qa_e rfl h) (Or.inl rfl) rfl rfl (by decide) rfl (fun r hc => mb_159_99_117 hN hM es hc)
    rw [← em6] at es
    replace h := qa_iload (n := 3) (q := 176) (qa_e rfl h) rfl g3
    obtain ⟨lv, M, h, hM, es⟩ : ∃ lv M, q4_run f 250 186 lv [.int ((if a3 = (0 : Int32) then r5.2.2.1 else r5.2.2.2.1))] M 0 0 = some r ∧ qa_O M ∧ qa_s M = m6 := by
      by_cases c7 : a3 = (0 : Int32)
      · replace h := qa_icf (q := 179) (qa_e rfl h) rfl (qa_F_ne c7)
        replace h := qa_iload (n := 6) (q := 181) (qa_e rfl h) rfl g6
        replace h := qa_goto (q := 186) (qa_e rfl h) rfl
        exact ⟨lv, M, (qa_hi1 c7 h), hM, es⟩
      · replace h := qa_ict (q := 184) (qa_e rfl h) rfl (qa_T_ne c7)
        replace h := qa_iload (n := 7) (q := 186) (qa_e rfl h) rfl g7
        exact ⟨lv, M, (qa_hi0 c7 h), hM, es⟩
    have er := qa_ri (qa_e rfl h)
    subst er
    have e0 : ma_250_99 N a1 a2 a3 σ = ((if a3 = (0 : Int32) then r5.2.2.1 else r5.2.2.2.1), m6) := by exact Eq.trans (qa_ie em1) (Eq.trans (if_neg c2) (Eq.trans (qa_ie em4) (Eq.trans (qa_ie er5) (Eq.trans (qa_ie em6) (rfl)))))
    rw [e0]
    exact ⟨rfl, hM, es⟩
noncomputable def mc_251_99_p64 (N : Nat) (σ : qa_S) (s : Int32 × Int32) : (Int32 × Int32) ⊕ (Int32 × Int32) :=
  if s.1 < (σ 99 0) then
    .inl ((s.1 + (1 : Int32)), (s.2 + (σ 103 s.1.toNatClampNeg)))
  else
    .inr (s.1, s.2)
theorem md_251_99_p64 {N F : Nat} {r : Option Value × q4_M} {σ : qa_S} (hN : F ≤ N) : ∀ f n, f ≤ n → f ≤ F → ∀ (s : Int32 × Int32) (lv : List (Nat × Value)) (M : q4_M), qa_O M → qa_s M = σ → q4_get lv 0 = some (.ref 99) → q4_get lv 2 = some (.int (s.2)) → q4_get lv 3 = some (.int (s.1)) → q4_run f 251 64 lv [] M 0 0 = some r → ∃ lv M, q4_run F 251 87 lv [] M 0 0 = some r ∧ qa_O M ∧ qa_s M = σ ∧ q4_get lv 2 = some (.int ((qa_wh (fun s => s) (mc_251_99_p64 N σ) n s).2)) := by
  intro f
  induction f with
  | zero => intro n _ _ s lv M hM es _ _ _ h; cases h
  | succ f ih =>
    intro n hn hF s lv M hM es g0 g2 g3 h
    obtain ⟨n, rfl⟩ : ∃ n1, n = n1 + 1 := ⟨n - 1, by omega⟩
    replace hn : f ≤ n := Nat.le_of_succ_le_succ hn
    have hN := Nat.le_trans (Nat.le_of_succ_le hF) hN
    replace h := qa_iload (n := 3) (q := 65) (qa_d rfl h) rfl g3
    replace h := qa_aload (n := 0) (q := 66) (qa_e rfl h) rfl g0
    replace h := qa_gi (j := 0) (q := 69) (qa_e rfl h) rfl hM es rfl (by decide)
    by_cases c1 : s.1 < (σ 99 0)
    · replace h := qa_iff (q := 72) (qa_e rfl h) rfl (qa_F_ge c1)
      replace h := qa_iload (n := 2) (q := 73) (qa_e rfl h) rfl g2
      replace h := qa_aload (n := 0) (q := 74) (qa_e rfl h) rfl g0
      replace h := qa_gr (b := 103) (j := 4) (q := 77) (qa_e rfl h) rfl hM rfl (by decide)
      replace h := qa_iload (n := 3) (q := 78) (qa_e rfl h) rfl g3
      replace h := qa_iaload (jn := s.1.toNatClampNeg) (q := 79) (qa_e rfl h) rfl hM es rfl
      replace h := qa_iadd (q := 80) (qa_e rfl h) rfl
      obtain ⟨lv, h, g, T⟩ := qa_istore (n := 2) (q := 81) (qa_e rfl h) rfl
      replace g0 := T _ _ g0 (by decide) (Or.inr rfl)
      replace g3 := T _ _ g3 (by decide) (Or.inr rfl)
      have g2 := g
      clear g T
      obtain ⟨lv, h, g, T⟩ := qa_iinc (n := 3) (z := (1 : Int32)) (q := 84) (qa_e rfl h) rfl (by decide) g3
      replace g0 := T _ _ g0 (by decide) (Or.inr rfl)
      replace g2 := T _ _ g2 (by decide) (Or.inr rfl)
      replace g3 := g
      clear g T
      replace h := qa_goto (q := 64) (qa_e rfl h) rfl
      have e0 : mc_251_99_p64 N σ s = .inl ((s.1 + (1 : Int32)), (s.2 + (σ 103 s.1.toNatClampNeg))) := by exact Eq.trans (if_pos c1) (rfl)
      rw [qa_whl e0]
      exact ih n hn (Nat.le_of_succ_le hF) ((s.1 + (1 : Int32)), (s.2 + (σ 103 s.1.toNatClampNeg))) _ _ hM es g0 g2 g3 h
    · replace h := qa_ift (q := 87) (qa_e rfl h) rfl (qa_T_ge c1)
      have e0 : mc_251_99_p64 N σ s = .inr (s.1, s.2) := by exact Eq.trans (if_neg c1) (rfl)
      rw [qa_whr e0]
      exact ⟨_, _, q61_mono f F _ _ _ _ _ _ _ _ (Nat.le_of_succ_le hF) h, hM, es, g2⟩
noncomputable def mc_251_99_p91 (N : Nat) (σ : qa_S) (s : Int32 × Int32) : (Int32 × Int32) ⊕ (Int32 × Int32) :=
  if s.1 < ((4 : Int32) * (σ 99 0)) then
    .inl ((s.1 + (1 : Int32)), (s.2 + (σ 102 s.1.toNatClampNeg)))
  else
    .inr (s.1, s.2)
theorem md_251_99_p91 {N F : Nat} {r : Option Value × q4_M} {σ : qa_S} (hN : F ≤ N) : ∀ f n, f ≤ n → f ≤ F → ∀ (s : Int32 × Int32) (lv : List (Nat × Value)) (M : q4_M), qa_O M → qa_s M = σ → q4_get lv 0 = some (.ref 99) → q4_get lv 2 = some (.int (s.2)) → q4_get lv 3 = some (.int (s.1)) → q4_run f 251 91 lv [] M 0 0 = some r → ∃ lv M, q4_run F 251 116 lv [] M 0 0 = some r ∧ qa_O M ∧ qa_s M = σ ∧ q4_get lv 2 = some (.int ((qa_wh (fun s => s) (mc_251_99_p91 N σ) n s).2)) := by
  intro f
  induction f with
  | zero => intro n _ _ s lv M hM es _ _ _ h; cases h
  | succ f ih =>
    intro n hn hF s lv M hM es g0 g2 g3 h
    obtain ⟨n, rfl⟩ : ∃ n1, n = n1 + 1 := ⟨n - 1, by omega⟩
    replace hn : f ≤ n := Nat.le_of_succ_le_succ hn
    have hN := Nat.le_trans (Nat.le_of_succ_le hF) hN
    replace h := qa_iload (n := 3) (q := 92) (qa_d rfl h) rfl g3
    replace h := qa_push (z := (4 : Int32)) (q := 93) (qa_e rfl h) rfl (by decide)
    replace h := qa_aload (n := 0) (q := 94) (qa_e rfl h) rfl g0
    replace h := qa_gi (j := 0) (q := 97) (qa_e rfl h) rfl hM es rfl (by decide)
    replace h := qa_imul (q := 98) (qa_e rfl h) rfl
    by_cases c1 : s.1 < ((4 : Int32) * (σ 99 0))
    · replace h := qa_iff (q := 101) (qa_e rfl h) rfl (qa_F_ge c1)
      replace h := qa_iload (n := 2) (q := 102) (qa_e rfl h) rfl g2
      replace h := qa_aload (n := 0) (q := 103) (qa_e rfl h) rfl g0
      replace h := qa_gr (b := 102) (j := 3) (q := 106) (qa_e rfl h) rfl hM rfl (by decide)
      replace h := qa_iload (n := 3) (q := 107) (qa_e rfl h) rfl g3
      replace h := qa_iaload (jn := s.1.toNatClampNeg) (q := 108) (qa_e rfl h) rfl hM es rfl
      replace h := qa_iadd (q := 109) (qa_e rfl h) rfl
      obtain ⟨lv, h, g, T⟩ := qa_istore (n := 2) (q := 110) (qa_e rfl h) rfl
      replace g0 := T _ _ g0 (by decide) (Or.inr rfl)
      replace g3 := T _ _ g3 (by decide) (Or.inr rfl)
      have g2 := g
      clear g T
      obtain ⟨lv, h, g, T⟩ := qa_iinc (n := 3) (z := (1 : Int32)) (q := 113) (qa_e rfl h) rfl (by decide) g3
      replace g0 := T _ _ g0 (by decide) (Or.inr rfl)
      replace g2 := T _ _ g2 (by decide) (Or.inr rfl)
      replace g3 := g
      clear g T
      replace h := qa_goto (q := 91) (qa_e rfl h) rfl
      have e0 : mc_251_99_p91 N σ s = .inl ((s.1 + (1 : Int32)), (s.2 + (σ 102 s.1.toNatClampNeg))) := by exact Eq.trans (if_pos c1) (rfl)
      rw [qa_whl e0]
      exact ih n hn (Nat.le_of_succ_le hF) ((s.1 + (1 : Int32)), (s.2 + (σ 102 s.1.toNatClampNeg))) _ _ hM es g0 g2 g3 h
    · replace h := qa_ift (q := 116) (qa_e rfl h) rfl (qa_T_ge c1)
      have e0 : mc_251_99_p91 N σ s = .inr (s.1, s.2) := by exact Eq.trans (if_neg c1) (rfl)
      rw [qa_whr e0]
      exact ⟨_, _, q61_mono f F _ _ _ _ _ _ _ _ (Nat.le_of_succ_le hF) h, hM, es, g2⟩
/-- BuriedBySevensModel, count, (I)I -/
noncomputable def ma_251_99 (N : Nat) (a1 : Int32) (σ : qa_S) : Int32 × qa_S :=
  qa_in (qa_u σ 99 9 (0 : Int32)) fun m1 =>
  if a1 = (0 : Int32) then
    ((m1 99 0), m1)
  else
    if a1 = (1 : Int32) then
      ((m1 99 5), m1)
    else
      if a1 = (2 : Int32) then
        qa_in ((qa_wh (fun s => s) (mc_251_99_p64 N m1) N ((0 : Int32), (0 : Int32)))) fun r9 =>
        (r9.2, m1)
      else
        if a1 = (3 : Int32) then
          qa_in ((qa_wh (fun s => s) (mc_251_99_p91 N m1) N ((0 : Int32), (0 : Int32)))) fun r10 =>
          (r10.2, m1)
        else
          if a1 = (4 : Int32) then
            ((m1 99 17), m1)
          else
            if a1 = (5 : Int32) then
              ((m1 99 35), m1)
            else
              if a1 = (6 : Int32) then
                ((m1 99 32), m1)
              else
                ((if (ma_158 (a1).toInt64 (11 : Int64) (16 : Int64)) = (0 : Int32) then (-9 : Int32) else (m1 107 (a1 - (10 : Int32)).toNatClampNeg)), m1)
theorem mb_251_99 {f N : Nat} (hN : f ≤ N) {M : q4_M} {r : Option Value × q4_M} {σ : qa_S} {a1 : Int32} (hM : qa_O M) (es : qa_s M = σ) (h : q4_run f 251 0 (lv_args 0 [.ref 99, .int (a1)]) [] M 0 0 = some r) : r.1 = some (.int ((ma_251_99 N a1 σ).1)) ∧ qa_O r.2 ∧ qa_s r.2 = (ma_251_99 N a1 σ).2 := by
  obtain ⟨lv, el⟩ : ∃ l, l = lv_args 0 [.ref 99, .int (a1)] := ⟨_, rfl⟩
  have g0 : q4_get lv 0 = some (.ref 99) := by rw [el]; rfl
  have g1 : q4_get lv 1 = some (.int (a1)) := by rw [el]; rfl
  rw [← el] at h
  clear el
  replace h := qa_aload (n := 0) (q := 1) (qa_e rfl h) rfl g0
  replace h := qa_push (z := (0 : Int32)) (q := 2) (qa_e rfl h) rfl (by decide)
  obtain ⟨m1, em1⟩ : ∃ x, x = qa_u σ 99 9 (0 : Int32) := ⟨_, rfl⟩
  obtain ⟨M, h, hM, es⟩ := qa_pf (j := 9) (q := 5) (qa_e rfl h) rfl hM es rfl (by decide)
  rw [← em1] at es
  replace h := qa_push (z := (0 : Int32)) (q := 6) (qa_e rfl h) rfl (by decide)
  obtain ⟨lv, h, g, T⟩ := qa_istore (n := 2) (q := 7) (qa_e rfl h) rfl
  replace g0 := T _ _ g0 (by decide) (Or.inr rfl)
  replace g1 := T _ _ g1 (by decide) (Or.inr rfl)
  have g2 := g
  clear g T
  replace h := qa_iload (n := 1) (q := 8) (qa_e rfl h) rfl g1
  by_cases c2 : a1 = (0 : Int32)
  · replace h := qa_ts (v := 0) (T := 52) (q := 52) (qa_e rfl h) (qa_sp c2 (by decide)).symm (by decide) rfl rfl
    replace h := qa_aload (n := 0) (q := 53) (qa_e rfl h) rfl g0
    replace h := qa_gi (j := 0) (q := 56) (qa_e rfl h) rfl hM es rfl (by decide)
    have er := qa_ri (qa_e rfl h)
    subst er
    have e0 : ma_251_99 N a1 σ = ((m1 99 0), m1) := by exact Eq.trans (qa_ie em1) (Eq.trans (if_pos c2) (rfl))
    rw [e0]
    exact ⟨rfl, hM, es⟩
  · by_cases c3 : a1 = (1 : Int32)
    · replace h := qa_ts (v := 1) (T := 57) (q := 57) (qa_e rfl h) (qa_sp c3 (by decide)).symm (by decide) rfl rfl
      replace h := qa_aload (n := 0) (q := 58) (qa_e rfl h) rfl g0
      replace h := qa_gi (j := 5) (q := 61) (qa_e rfl h) rfl hM es rfl (by decide)
      have er := qa_ri (qa_e rfl h)
      subst er
      have e0 : ma_251_99 N a1 σ = ((m1 99 5), m1) := by exact Eq.trans (qa_ie em1) (Eq.trans (if_neg c2) (Eq.trans (if_pos c3) (rfl)))
      rw [e0]
      exact ⟨rfl, hM, es⟩
    · by_cases c4 : a1 = (2 : Int32)
      · replace h := qa_ts (v := 2) (T := 62) (q := 62) (qa_e rfl h) (qa_sp c4 (by decide)).symm (by decide) rfl rfl
        replace h := qa_push (z := (0 : Int32)) (q := 63) (qa_e rfl h) rfl (by decide)
        obtain ⟨lv, h, g, T⟩ := qa_istore (n := 3) (q := 64) (qa_e rfl h) rfl
        replace g0 := T _ _ g0 (by decide) (Or.inr rfl)
        replace g2 := T _ _ g2 (by decide) (Or.inr rfl)
        have g3 := g
        clear g T
        obtain ⟨r9, er9⟩ : ∃ x, x = (qa_wh (fun s => s) (mc_251_99_p64 N m1) N ((0 : Int32), (0 : Int32))) := ⟨_, rfl⟩
        have L := md_251_99_p64 (σ := m1) (F := f) (N := N) (r := r) hN f N hN (Nat.le_refl f) ((0 : Int32), (0 : Int32)) _ _ hM es g0 g2 g3 h
        rw [← er9] at L
        obtain ⟨lv, M, h, hM, es, g2⟩ := L
        replace h := qa_iload (n := 2) (q := 88) (qa_e rfl h) rfl g2
        have er := qa_ri (qa_e rfl h)
        subst er
        have e0 : ma_251_99 N a1 σ = (r9.2, m1) := by exact Eq.trans (qa_ie em1) (Eq.trans (if_neg c2) (Eq.trans (if_neg c3) (Eq.trans (if_pos c4) (Eq.trans (qa_ie er9) (rfl)))))
        rw [e0]
        exact ⟨rfl, hM, es⟩
      · by_cases c5 : a1 = (3 : Int32)
        · replace h := qa_ts (v := 3) (T := 89) (q := 89) (qa_e rfl h) (qa_sp c5 (by decide)).symm (by decide) rfl rfl
          replace h := qa_push (z := (0 : Int32)) (q := 90) (qa_e rfl h) rfl (by decide)
          obtain ⟨lv, h, g, T⟩ := qa_istore (n := 3) (q := 91) (qa_e rfl h) rfl
          replace g0 := T _ _ g0 (by decide) (Or.inr rfl)
          replace g2 := T _ _ g2 (by decide) (Or.inr rfl)
          have g3 := g
          clear g T
          obtain ⟨r10, er10⟩ : ∃ x, x = (qa_wh (fun s => s) (mc_251_99_p91 N m1) N ((0 : Int32), (0 : Int32))) := ⟨_, rfl⟩
          have L := md_251_99_p91 (σ := m1) (F := f) (N := N) (r := r) hN f N hN (Nat.le_refl f) ((0 : Int32), (0 : Int32)) _ _ hM es g0 g2 g3 h
          rw [← er10] at L
          obtain ⟨lv, M, h, hM, es, g2⟩ := L
          replace h := qa_iload (n := 2) (q := 117) (qa_e rfl h) rfl g2
          have er := qa_ri (qa_e rfl h)
          subst er
          have e0 : ma_251_99 N a1 σ = (r10.2, m1) := by exact Eq.trans (qa_ie em1) (Eq.trans (if_neg c2) (Eq.trans (if_neg c3) (Eq.trans (if_neg c4) (Eq.trans (if_pos c5) (Eq.trans (qa_ie er10) (rfl))))))
          rw [e0]
          exact ⟨rfl, hM, es⟩
        · by_cases c6 : a1 = (4 : Int32)
          · replace h := qa_ts (v := 4) (T := 118) (q := 118) (qa_e rfl h) (qa_sp c6 (by decide)).symm (by decide) rfl rfl
            replace h := qa_aload (n := 0) (q := 119) (qa_e rfl h) rfl g0
            replace h := qa_gi (j := 17) (q := 122) (qa_e rfl h) rfl hM es rfl (by decide)
            have er := qa_ri (qa_e rfl h)
            subst er
            have e0 : ma_251_99 N a1 σ = ((m1 99 17), m1) := by exact Eq.trans (qa_ie em1) (Eq.trans (if_neg c2) (Eq.trans (if_neg c3) (Eq.trans (if_neg c4) (Eq.trans (if_neg c5) (Eq.trans (if_pos c6) (rfl))))))
            rw [e0]
            exact ⟨rfl, hM, es⟩
          · by_cases c7 : a1 = (5 : Int32)
            · replace h := qa_ts (v := 5) (T := 123) (q := 123) (qa_e rfl h) (qa_sp c7 (by decide)).symm (by decide) rfl rfl
              replace h := qa_aload (n := 0) (q := 124) (qa_e rfl h) rfl g0
              replace h := qa_gi (j := 35) (q := 127) (qa_e rfl h) rfl hM es rfl (by decide)
              have er := qa_ri (qa_e rfl h)
              subst er
              have e0 : ma_251_99 N a1 σ = ((m1 99 35), m1) := by exact Eq.trans (qa_ie em1) (Eq.trans (if_neg c2) (Eq.trans (if_neg c3) (Eq.trans (if_neg c4) (Eq.trans (if_neg c5) (Eq.trans (if_neg c6) (Eq.trans (if_pos c7) (rfl)))))))
              rw [e0]
              exact ⟨rfl, hM, es⟩
            · by_cases c8 : a1 = (6 : Int32)
              · replace h := qa_ts (v := 6) (T := 128) (q := 128) (qa_e rfl h) (qa_sp c8 (by decide)).symm (by decide) rfl rfl
                replace h := qa_aload (n := 0) (q := 129) (qa_e rfl h) rfl g0
                replace h := qa_gi (j := 32) (q := 132) (qa_e rfl h) rfl hM es rfl (by decide)
                have er := qa_ri (qa_e rfl h)
                subst er
                have e0 : ma_251_99 N a1 σ = ((m1 99 32), m1) := by exact Eq.trans (qa_ie em1) (Eq.trans (if_neg c2) (Eq.trans (if_neg c3) (Eq.trans (if_neg c4) (Eq.trans (if_neg c5) (Eq.trans (if_neg c6) (Eq.trans (if_neg c7) (Eq.trans (if_pos c8) (rfl))))))))
                rw [e0]
                exact ⟨rfl, hM, es⟩
              · replace h := qa_tsd (q := 133) (qa_e rfl h) (by have n0 := qa_sn (v := 0) c2 (by decide); have n1 := qa_sn (v := 1) c3 (by decide); have n2 := qa_sn (v := 2) c4 (by decide); have n3 := qa_sn (v := 3) c5 (by decide); have n4 := qa_sn (v := 4) c6 (by decide); have n5 := qa_sn (v := 5) c7 (by decide); have n6 := qa_sn (v := 6) c8 (by decide); omega) rfl
                replace h := qa_iload (n := 1) (q := 134) (qa_e rfl h) rfl g1
                replace h := qa_i2l (q := 135) (qa_e rfl h) rfl
                replace h := qa_lpush (z := (11 : Int64)) (q := 138) (qa_e rfl h) rfl (by decide)
                replace h := qa_lpush (z := (16 : Int64)) (q := 141) (qa_e rfl h) rfl (by decide)
                obtain ⟨M, h, hM, es⟩ := qa_c1 (y := 158) (as := [.long ((a1).toInt64), .long ((11 : Int64)), .long ((16 : Int64))]) (rest := []) (i := .invokestatic 158) (q := 144) (qa_e rfl h) (Or.inr rfl) rfl rfl (by decide) rfl (fun r hc => mb_158 hM es hc)
                obtain ⟨lv, M, h, hM, es⟩ : ∃ lv M, q4_run f 251 161 lv [.int ((if (ma_158 (a1).toInt64 (11 : Int64) (16 : Int64)) = (0 : Int32) then (-9 : Int32) else (m1 107 (a1 - (10 : Int32)).toNatClampNeg)))] M 0 0 = some r ∧ qa_O M ∧ qa_s M = m1 := by
                  by_cases c11 : (ma_158 (a1).toInt64 (11 : Int64) (16 : Int64)) = (0 : Int32)
                  · replace h := qa_ict (q := 159) (qa_e rfl h) rfl (qa_T_eq c11)
                    replace h := qa_push (z := (-9 : Int32)) (q := 161) (qa_e rfl h) rfl (by decide)
                    exact ⟨lv, M, (qa_hi1 c11 h), hM, es⟩
                  · replace h := qa_icf (q := 147) (qa_e rfl h) rfl (qa_F_eq c11)
                    replace h := qa_aload (n := 0) (q := 148) (qa_e rfl h) rfl g0
                    replace h := qa_gr (b := 107) (j := 10) (q := 151) (qa_e rfl h) rfl hM rfl (by decide)
                    replace h := qa_iload (n := 1) (q := 152) (qa_e rfl h) rfl g1
                    replace h := qa_push (z := (10 : Int32)) (q := 154) (qa_e rfl h) rfl (by decide)
                    replace h := qa_isub (q := 155) (qa_e rfl h) rfl
                    replace h := qa_iaload (jn := (a1 - (10 : Int32)).toNatClampNeg) (q := 156) (qa_e rfl h) rfl hM es rfl
                    replace h := qa_goto (q := 161) (qa_e rfl h) rfl
                    exact ⟨lv, M, (qa_hi0 c11 h), hM, es⟩
                have er := qa_ri (qa_e rfl h)
                subst er
                have e0 : ma_251_99 N a1 σ = ((if (ma_158 (a1).toInt64 (11 : Int64) (16 : Int64)) = (0 : Int32) then (-9 : Int32) else (m1 107 (a1 - (10 : Int32)).toNatClampNeg)), m1) := by exact Eq.trans (qa_ie em1) (Eq.trans (if_neg c2) (Eq.trans (if_neg c3) (Eq.trans (if_neg c4) (Eq.trans (if_neg c5) (Eq.trans (if_neg c6) (Eq.trans (if_neg c7) (Eq.trans (if_neg c8) (rfl))))))))
                rw [e0]
                exact ⟨rfl, hM, es⟩
