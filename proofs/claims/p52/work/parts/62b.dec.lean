noncomputable def mc_29_4_p12 (N : Nat) (l1 : Int32) (s : Int32 × qa_S) : (Int32 × qa_S) ⊕ (Int32 × qa_S) :=
  if s.1 < (4 : Int32) then
    qa_in (qa_u s.2 (17 + l1.toNatClampNeg) s.1.toNatClampNeg (ma_30_4 l1 s.1 s.2)) fun m2 =>
    .inl ((s.1 + (1 : Int32)), m2)
  else
    .inr (s.1, s.2)
theorem md_29_4_p12 {N F : Nat} {r : Option Value × q4_M} {l1 : Int32} (hN : F ≤ N) : ∀ f n, f ≤ n → f ≤ F → ∀ (s : Int32 × qa_S) (lv : List (Nat × Value)) (M : q4_M), qa_O M → qa_s M = s.2 → q4_get lv 0 = some (.ref 4) → q4_get lv 1 = some (.int (l1)) → q4_get lv 2 = some (.int (s.1)) → q4_run f 29 12 lv [] M 0 0 = some r → ∃ lv M, q4_run F 29 37 lv [] M 0 0 = some r ∧ qa_O M ∧ qa_s M = (qa_wh (fun s => s) (mc_29_4_p12 N l1) n s).2 ∧ q4_get lv 0 = some (.ref 4) ∧ q4_get lv 1 = some (.int (l1)) := by
  intro f
  induction f with
  | zero => intro n _ _ s lv M hM es _ _ _ h; cases h
  | succ f ih =>
    intro n hn hF s lv M hM es g0 g1 g2 h
    obtain ⟨n, rfl⟩ : ∃ n1, n = n1 + 1 := ⟨n - 1, by omega⟩
    replace hn : f ≤ n := Nat.le_of_succ_le_succ hn
    have hN := Nat.le_trans (Nat.le_of_succ_le hF) hN
    replace h := qa_iload (n := 2) (q := 13) (qa_d rfl h) rfl g2
    replace h := qa_push (z := (4 : Int32)) (q := 14) (qa_e rfl h) rfl (by decide)
    by_cases c1 : s.1 < (4 : Int32)
    · replace h := qa_iff (q := 17) (qa_e rfl h) rfl (qa_F_ge c1)
      replace h := qa_aload (n := 0) (q := 18) (qa_e rfl h) rfl g0
      replace h := qa_gr (b := 16) (j := 6) (q := 21) (qa_e rfl h) rfl hM rfl (by decide)
      replace h := qa_iload (n := 1) (q := 22) (qa_e rfl h) rfl g1
      replace h := qa_aaload (b := 17) (jn := l1.toNatClampNeg) (q := 23) (qa_e rfl h) rfl hM rfl (by decide) (by decide +kernel)
      replace h := qa_iload (n := 2) (q := 24) (qa_e rfl h) rfl g2
      replace h := qa_aload (n := 0) (q := 25) (qa_e rfl h) rfl g0
      replace h := qa_iload (n := 1) (q := 26) (qa_e rfl h) rfl g1
      replace h := qa_iload (n := 2) (q := 27) (qa_e rfl h) rfl g2
      obtain ⟨M, h, hM, es⟩ := qa_c1 (y := 30) (as := [.ref 4, .int (l1), .int (s.1)]) (rest := [.int (s.1), .ref ((17 + l1.toNatClampNeg))]) (i := .invokevirtual 30) (q := 30) (qa_e rfl h) (Or.inl rfl) rfl rfl (by decide) rfl (fun r hc => mb_30_4 hM es hc)
      obtain ⟨m2, em2⟩ : ∃ x, x = qa_u s.2 (17 + l1.toNatClampNeg) s.1.toNatClampNeg (ma_30_4 l1 s.1 s.2) := ⟨_, rfl⟩
      obtain ⟨M, h, hM, es⟩ := qa_iastore (jn := s.1.toNatClampNeg) (q := 31) (qa_e rfl h) rfl hM es rfl
      rw [← em2] at es
      obtain ⟨lv, h, g, T⟩ := qa_iinc (n := 2) (z := (1 : Int32)) (q := 34) (qa_e rfl h) rfl (by decide) g2
      replace g0 := T _ _ g0 (by decide) (Or.inr rfl)
      replace g1 := T _ _ g1 (by decide) (Or.inr rfl)
      replace g2 := g
      clear g T
      replace h := qa_goto (q := 12) (qa_e rfl h) rfl
      have e0 : mc_29_4_p12 N l1 s = .inl ((s.1 + (1 : Int32)), m2) := by exact Eq.trans (if_pos c1) (Eq.trans (qa_ie em2) (rfl))
      rw [qa_whl e0]
      exact ih n hn (Nat.le_of_succ_le hF) ((s.1 + (1 : Int32)), m2) _ _ hM es g0 g1 g2 h
    · replace h := qa_ift (q := 37) (qa_e rfl h) rfl (qa_T_ge c1)
      have e0 : mc_29_4_p12 N l1 s = .inr (s.1, s.2) := by exact Eq.trans (if_neg c1) (rfl)
      rw [qa_whr e0]
      exact ⟨_, _, q61_mono f F _ _ _ _ _ _ _ _ (Nat.le_of_succ_le hF) h, hM, es, g0, g1⟩
noncomputable def mc_29_4_p2 (N : Nat) (s : Int32 × qa_S) : (Int32 × qa_S) ⊕ (Int32 × qa_S) :=
  if s.1 < (s.2 4 0) then
    qa_in ((qa_wh (fun s => s) (mc_29_4_p12 N s.1) N ((0 : Int32), s.2))) fun r2 =>
    .inl ((s.1 + (1 : Int32)), r2.2)
  else
    .inr (s.1, s.2)
theorem md_29_4_p2 {N F : Nat} {r : Option Value × q4_M} (hN : F ≤ N) : ∀ f n, f ≤ n → f ≤ F → ∀ (s : Int32 × qa_S) (lv : List (Nat × Value)) (M : q4_M), qa_O M → qa_s M = s.2 → q4_get lv 0 = some (.ref 4) → q4_get lv 1 = some (.int (s.1)) → q4_run f 29 2 lv [] M 0 0 = some r → ∃ lv M, q4_run F 29 43 lv [] M 0 0 = some r ∧ qa_O M ∧ qa_s M = (qa_wh (fun s => s) (mc_29_4_p2 N) n s).2 := by
  intro f
  induction f with
  | zero => intro n _ _ s lv M hM es _ _ h; cases h
  | succ f ih =>
    intro n hn hF s lv M hM es g0 g1 h
    obtain ⟨n, rfl⟩ : ∃ n1, n = n1 + 1 := ⟨n - 1, by omega⟩
    replace hn : f ≤ n := Nat.le_of_succ_le_succ hn
    have hN := Nat.le_trans (Nat.le_of_succ_le hF) hN
    replace h := qa_iload (n := 1) (q := 3) (qa_d rfl h) rfl g1
    replace h := qa_aload (n := 0) (q := 4) (qa_e rfl h) rfl g0
    replace h := qa_gi (j := 0) (q := 7) (qa_e rfl h) rfl hM es rfl (by decide)
    by_cases c1 : s.1 < (s.2 4 0)
    · replace h := qa_iff (q := 10) (qa_e rfl h) rfl (qa_F_ge c1)
      replace h := qa_push (z := (0 : Int32)) (q := 11) (qa_e rfl h) rfl (by decide)
      obtain ⟨lv, h, g, T⟩ := qa_istore (n := 2) (q := 12) (qa_e rfl h) rfl
      replace g0 := T _ _ g0 (by decide) (Or.inr rfl)
      replace g1 := T _ _ g1 (by decide) (Or.inr rfl)
      have g2 := g
      clear g T
      obtain ⟨r2, er2⟩ : ∃ x, x = (qa_wh (fun s => s) (mc_29_4_p12 N s.1) N ((0 : Int32), s.2)) := ⟨_, rfl⟩
      have L := md_29_4_p12 (l1 := s.1) (F := f) (N := N) (r := r) hN f N hN (Nat.le_refl f) ((0 : Int32), s.2) _ _ hM es g0 g1 g2 h
      rw [← er2] at L
      obtain ⟨lv, M, h, hM, es, g0, g1⟩ := L
      obtain ⟨lv, h, g, T⟩ := qa_iinc (n := 1) (z := (1 : Int32)) (q := 40) (qa_e rfl h) rfl (by decide) g1
      replace g0 := T _ _ g0 (by decide) (Or.inr rfl)
      replace g1 := g
      clear g T
      replace h := qa_goto (q := 2) (qa_e rfl h) rfl
      have e0 : mc_29_4_p2 N s = .inl ((s.1 + (1 : Int32)), r2.2) := by exact Eq.trans (if_pos c1) (Eq.trans (qa_ie er2) (rfl))
      rw [qa_whl e0]
      exact ih n hn (Nat.le_of_succ_le hF) ((s.1 + (1 : Int32)), r2.2) _ _ hM es g0 g1 h
    · replace h := qa_ift (q := 43) (qa_e rfl h) rfl (qa_T_ge c1)
      have e0 : mc_29_4_p2 N s = .inr (s.1, s.2) := by exact Eq.trans (if_neg c1) (rfl)
      rw [qa_whr e0]
      exact ⟨_, _, q61_mono f F _ _ _ _ _ _ _ _ (Nat.le_of_succ_le hF) h, hM, es⟩
/-- BuriedBySevens$Cellar, brew, ()V -/
noncomputable def ma_29_4 (N : Nat) (σ : qa_S) : qa_S :=
  qa_in ((qa_wh (fun s => s) (mc_29_4_p2 N) N ((0 : Int32), σ))) fun r1 =>
  r1.2
theorem mb_29_4 {f N : Nat} (hN : f ≤ N) {M : q4_M} {r : Option Value × q4_M} {σ : qa_S} (hM : qa_O M) (es : qa_s M = σ) (h : q4_run f 29 0 (lv_args 0 [.ref 4]) [] M 0 0 = some r) : r.1 = none ∧ qa_O r.2 ∧ qa_s r.2 = (ma_29_4 N σ) := by
  obtain ⟨lv, el⟩ : ∃ l, l = lv_args 0 [.ref 4] := ⟨_, rfl⟩
  have g0 : q4_get lv 0 = some (.ref 4) := by rw [el]; rfl
  rw [← el] at h
  clear el
  replace h := qa_push (z := (0 : Int32)) (q := 1) (qa_e rfl h) rfl (by decide)
  obtain ⟨lv, h, g, T⟩ := qa_istore (n := 1) (q := 2) (qa_e rfl h) rfl
  replace g0 := T _ _ g0 (by decide) (Or.inr rfl)
  have g1 := g
  clear g T
  obtain ⟨r1, er1⟩ : ∃ x, x = (qa_wh (fun s => s) (mc_29_4_p2 N) N ((0 : Int32), σ)) := ⟨_, rfl⟩
  have L := md_29_4_p2 (F := f) (N := N) (r := r) hN f N hN (Nat.le_refl f) ((0 : Int32), σ) _ _ hM es g0 g1 h
  rw [← er1] at L
  obtain ⟨lv, M, h, hM, es⟩ := L
  have er := qa_rv (qa_e rfl h)
  subst er
  have e0 : ma_29_4 N σ = r1.2 := by exact Eq.trans (qa_ie er1) (rfl)
  rw [e0]
  exact ⟨rfl, hM, es⟩
/-- BuriedBySevens, brewAgain, ()V -/
noncomputable def ma_28_3 (N : Nat) (σ : qa_S) : qa_S :=
  qa_in ((ma_29_4 N σ)) fun m1 =>
  qa_in (qa_u m1 3 18 (1 : Int32)) fun m2 =>
  m2
theorem mb_28_3 {f N : Nat} (hN : f ≤ N) {M : q4_M} {r : Option Value × q4_M} {σ : qa_S} (hM : qa_O M) (es : qa_s M = σ) (h : q4_run f 28 0 (lv_args 0 [.ref 3]) [] M 0 0 = some r) : r.1 = none ∧ qa_O r.2 ∧ qa_s r.2 = (ma_28_3 N σ) := by
  obtain ⟨lv, el⟩ : ∃ l, l = lv_args 0 [.ref 3] := ⟨_, rfl⟩
  have g0 : q4_get lv 0 = some (.ref 3) := by rw [el]; rfl
  rw [← el] at h
  clear el
  replace h := qa_aload (n := 0) (q := 1) (qa_e rfl h) rfl g0
  replace h := qa_gr (b := 4) (j := 0) (q := 4) (qa_e rfl h) rfl hM rfl (by decide)
  obtain ⟨m1, em1⟩ : ∃ x, x = (ma_29_4 N σ) := ⟨_, rfl⟩
  obtain ⟨M, h, hM, es⟩ := qa_c0 (y := 29) (as := [.ref 4]) (rest := []) (i := .invokevirtual 29) (q := 7) (qa_e rfl h) (Or.inl rfl) rfl rfl (by decide) rfl (fun r hc => mb_29_4 hN hM es hc)
  rw [← em1] at es
  replace h := qa_aload (n := 0) (q := 8) (qa_e rfl h) rfl g0
  replace h := qa_push (z := (1 : Int32)) (q := 9) (qa_e rfl h) rfl (by decide)
  obtain ⟨m2, em2⟩ : ∃ x, x = qa_u m1 3 18 (1 : Int32) := ⟨_, rfl⟩
  obtain ⟨M, h, hM, es⟩ := qa_pf (j := 18) (q := 12) (qa_e rfl h) rfl hM es rfl (by decide)
  rw [← em2] at es
  have er := qa_rv (qa_e rfl h)
  subst er
  have e0 : ma_28_3 N σ = m2 := by exact Eq.trans (qa_ie em1) (Eq.trans (qa_ie em2) (rfl))
  rw [e0]
  exact ⟨rfl, hM, es⟩
/-- BuriedBySevens, settle, ()V -/
noncomputable def ma_27_3 (N : Nat) (σ : qa_S) : qa_S :=
  qa_in (qa_u σ 85 0 (0 : Int32)) fun m1 =>
  qa_in ((ma_28_3 N m1)) fun m2 =>
  m2
theorem mb_27_3 {f N : Nat} (hN : f ≤ N) {M : q4_M} {r : Option Value × q4_M} {σ : qa_S} (hM : qa_O M) (es : qa_s M = σ) (h : q4_run f 27 0 (lv_args 0 [.ref 3]) [] M 0 0 = some r) : r.1 = none ∧ qa_O r.2 ∧ qa_s r.2 = (ma_27_3 N σ) := by
  obtain ⟨lv, el⟩ : ∃ l, l = lv_args 0 [.ref 3] := ⟨_, rfl⟩
  have g0 : q4_get lv 0 = some (.ref 3) := by rw [el]; rfl
  rw [← el] at h
  clear el
  replace h := qa_aload (n := 0) (q := 1) (qa_e rfl h) rfl g0
  replace h := qa_gr (b := 85) (j := 6) (q := 4) (qa_e rfl h) rfl hM rfl (by decide)
  replace h := qa_push (z := (0 : Int32)) (q := 5) (qa_e rfl h) rfl (by decide)
  obtain ⟨m1, em1⟩ : ∃ x, x = qa_u σ 85 0 (0 : Int32) := ⟨_, rfl⟩
  obtain ⟨M, h, hM, es⟩ := qa_pf (j := 0) (q := 8) (qa_e rfl h) rfl hM es rfl (by decide)
  rw [← em1] at es
  replace h := qa_aload (n := 0) (q := 9) (qa_e rfl h) rfl g0
  obtain ⟨m2, em2⟩ : ∃ x, x = (ma_28_3 N m1) := ⟨_, rfl⟩
  obtain ⟨M, h, hM, es⟩ := qa_c0 (y := 28) (as := [.ref 3]) (rest := []) (i := .invokevirtual 28) (q := 12) (qa_e rfl h) (Or.inl rfl) rfl rfl (by decide) rfl (fun r hc => mb_28_3 hN hM es hc)
  rw [← em2] at es
  have er := qa_rv (qa_e rfl h)
  subst er
  have e0 : ma_27_3 N σ = m2 := by exact Eq.trans (qa_ie em1) (Eq.trans (qa_ie em2) (rfl))
  rw [e0]
  exact ⟨rfl, hM, es⟩
/-- BuriedBySevens, cellar, ()I -/
noncomputable def ma_11_3 (N : Nat) (σ : qa_S) : Int32 × qa_S :=
  qa_in ((ma_12_50_4 N σ)) fun m1 =>
  qa_in ((ma_13_83_50 N m1)) fun r2 =>
  qa_in (qa_u r2.2 83 0 (0 : Int32)) fun m3 =>
  qa_in ((ma_12_4_50 N m3)) fun m5 =>
  qa_in ((ma_27_3 N m5)) fun m6 =>
  qa_in ((if (0 : Int32) < r2.1 then m6 else m3)) fun m7 =>
  (r2.1, m7)
theorem mb_11_3 {f N : Nat} (hN : f ≤ N) {M : q4_M} {r : Option Value × q4_M} {σ : qa_S} (hM : qa_O M) (es : qa_s M = σ) (h : q4_run f 11 0 (lv_args 0 [.ref 3]) [] M 0 0 = some r) : r.1 = some (.int ((ma_11_3 N σ).1)) ∧ qa_O r.2 ∧ qa_s r.2 = (ma_11_3 N σ).2 := by
  obtain ⟨lv, el⟩ : ∃ l, l = lv_args 0 [.ref 3] := ⟨_, rfl⟩
  have g0 : q4_get lv 0 = some (.ref 3) := by rw [el]; rfl
  rw [← el] at h
  clear el
  replace h := qa_aload (n := 0) (q := 1) (qa_e rfl h) rfl g0
  replace h := qa_gr (b := 50) (j := 2) (q := 4) (qa_e rfl h) rfl hM rfl (by decide)
  replace h := qa_aload (n := 0) (q := 5) (qa_e rfl h) rfl g0
  replace h := qa_gr (b := 4) (j := 0) (q := 8) (qa_e rfl h) rfl hM rfl (by decide)
  obtain ⟨m1, em1⟩ : ∃ x, x = (ma_12_50_4 N σ) := ⟨_, rfl⟩
  obtain ⟨M, h, hM, es⟩ := qa_c0 (y := 12) (as := [.ref 50, .ref 4]) (rest := []) (i := .invokevirtual 12) (q := 11) (qa_e rfl h) (Or.inl rfl) rfl rfl (by decide) rfl (fun r hc => mb_12_50_4 hN hM es hc)
  rw [← em1] at es
  replace h := qa_aload (n := 0) (q := 12) (qa_e rfl h) rfl g0
  replace h := qa_gr (b := 83) (j := 5) (q := 15) (qa_e rfl h) rfl hM rfl (by decide)
  replace h := qa_aload (n := 0) (q := 16) (qa_e rfl h) rfl g0
  replace h := qa_gr (b := 50) (j := 2) (q := 19) (qa_e rfl h) rfl hM rfl (by decide)
  obtain ⟨r2, er2⟩ : ∃ x, x = (ma_13_83_50 N m1) := ⟨_, rfl⟩
  obtain ⟨M, h, hM, es⟩ := qa_c1 (y := 13) (as := [.ref 83, .ref 50]) (rest := []) (i := .invokevirtual 13) (q := 22) (qa_e rfl h) (Or.inl rfl) rfl rfl (by decide) rfl (fun r hc => mb_13_83_50 hN hM es hc)
  rw [← er2] at h es
  obtain ⟨lv, h, g, T⟩ := qa_istore (n := 1) (q := 23) (qa_e rfl h) rfl
  replace g0 := T _ _ g0 (by decide) (Or.inr rfl)
  have g1 := g
  clear g T
  replace h := qa_aload (n := 0) (q := 24) (qa_e rfl h) rfl g0
  replace h := qa_gr (b := 83) (j := 5) (q := 27) (qa_e rfl h) rfl hM rfl (by decide)
  replace h := qa_push (z := (0 : Int32)) (q := 28) (qa_e rfl h) rfl (by decide)
  obtain ⟨m3, em3⟩ : ∃ x, x = qa_u r2.2 83 0 (0 : Int32) := ⟨_, rfl⟩
  obtain ⟨M, h, hM, es⟩ := qa_pf (j := 0) (q := 31) (qa_e rfl h) rfl hM es rfl (by decide)
  rw [← em3] at es
  replace h := qa_iload (n := 1) (q := 32) (qa_e rfl h) rfl g1
  obtain ⟨m5, em5⟩ : ∃ x, x = (ma_12_4_50 N m3) := ⟨_, rfl⟩
  obtain ⟨m6, em6⟩ : ∃ x, x = (ma_27_3 N m5) := ⟨_, rfl⟩
  obtain ⟨m7, em7⟩ : ∃ x, x = (if (0 : Int32) < r2.1 then m6 else m3) := ⟨_, rfl⟩
  obtain ⟨lv, M, h, hM, es, g1⟩ : ∃ lv M, q4_run f 11 50 lv [] M 0 0 = some r ∧ qa_O M ∧ qa_s M = m7 ∧ q4_get lv 1 = some (.int (r2.1)) := by
    by_cases c4 : (0 : Int32) < r2.1
    · replace h := qa_icf (q := 35) (qa_e rfl h) rfl (qa_F_le c4)
      replace h := qa_aload (n := 0) (q := 36) (qa_e rfl h) rfl g0
      replace h := qa_gr (b := 4) (j := 0) (q := 39) (qa_e rfl h) rfl hM rfl (by decide)
      replace h := qa_aload (n := 0) (q := 40) (qa_e rfl h) rfl g0
      replace h := qa_gr (b := 50) (j := 2) (q := 43) (qa_e rfl h) rfl hM rfl (by decide)
      obtain ⟨M, h, hM, es⟩ := qa_c0 (y := 12) (as := [.ref 4, .ref 50]) (rest := []) (i := .invokevirtual 12) (q := 46) (qa_e rfl h) (Or.inl rfl) rfl rfl (by decide) rfl (fun r hc => mb_12_4_50 hN hM es hc)
      rw [← em5] at es
      replace h := qa_aload (n := 0) (q := 47) (qa_e rfl h) rfl g0
      obtain ⟨M, h, hM, es⟩ := qa_c0 (y := 27) (as := [.ref 3]) (rest := []) (i := .invokevirtual 27) (q := 50) (qa_e rfl h) (Or.inl rfl) rfl rfl (by decide) rfl (fun r hc => mb_27_3 hN hM es hc)
      rw [← em6] at es
      exact ⟨lv, M, h, hM, ((qa_ms1 c4 es).trans em7.symm), g1⟩
    · replace h := qa_ict (q := 50) (qa_e rfl h) rfl (qa_T_le c4)
      exact ⟨lv, M, h, hM, ((qa_ms0 c4 es).trans em7.symm), g1⟩
  replace h := qa_iload (n := 1) (q := 51) (qa_e rfl h) rfl g1
  have er := qa_ri (qa_e rfl h)
  subst er
  have e0 : ma_11_3 N σ = (r2.1, m7) := by exact Eq.trans (qa_ie em1) (Eq.trans (qa_ie er2) (Eq.trans (qa_ie em3) (Eq.trans (qa_ie em5) (Eq.trans (qa_ie em6) (Eq.trans (qa_ie em7) (rfl))))))
  rw [e0]
  exact ⟨rfl, hM, es⟩
/-- BuriedBySevens$Cellar, hasCask, (I)Z -/
noncomputable def ma_22_4 (a1 : Int32) (σ : qa_S) : Int32 :=
  (if a1 < (0 : Int32) then (0 : Int32) else (if a1 < (σ 4 0) then (1 : Int32) else (0 : Int32)))
theorem mb_22_4 {f : Nat} {M : q4_M} {r : Option Value × q4_M} {σ : qa_S} {a1 : Int32} (hM : qa_O M) (es : qa_s M = σ) (h : q4_run f 22 0 (lv_args 0 [.ref 4, .int (a1)]) [] M 0 0 = some r) : r.1 = some (.int ((ma_22_4 a1 σ))) ∧ qa_O r.2 ∧ qa_s r.2 = σ := by
  obtain ⟨lv, el⟩ : ∃ l, l = lv_args 0 [.ref 4, .int (a1)] := ⟨_, rfl⟩
  have g0 : q4_get lv 0 = some (.ref 4) := by rw [el]; rfl
  have g1 : q4_get lv 1 = some (.int (a1)) := by rw [el]; rfl
  rw [← el] at h
  clear el
  replace h := qa_iload (n := 1) (q := 1) (qa_e rfl h) rfl g1
  obtain ⟨lv, M, h, hM, es⟩ : ∃ lv M, q4_run f 22 17 lv [.int ((if a1 < (0 : Int32) then (0 : Int32) else (if a1 < (σ 4 0) then (1 : Int32) else (0 : Int32))))] M 0 0 = some r ∧ qa_O M ∧ qa_s M = σ := by
    by_cases c1 : a1 < (0 : Int32)
    · replace h := qa_ict (q := 16) (qa_e rfl h) rfl (qa_T_lt c1)
      replace h := qa_push (z := (0 : Int32)) (q := 17) (qa_e rfl h) rfl (by decide)
      exact ⟨lv, M, (qa_hi1 c1 h), hM, es⟩
    · replace h := qa_icf (q := 4) (qa_e rfl h) rfl (qa_F_lt c1)
      replace h := qa_iload (n := 1) (q := 5) (qa_e rfl h) rfl g1
      replace h := qa_aload (n := 0) (q := 6) (qa_e rfl h) rfl g0
      replace h := qa_gi (j := 0) (q := 9) (qa_e rfl h) rfl hM es rfl (by decide)
      obtain ⟨lv, M, h, hM, es⟩ : ∃ lv M, q4_run f 22 17 lv [.int ((if a1 < (σ 4 0) then (1 : Int32) else (0 : Int32)))] M 0 0 = some r ∧ qa_O M ∧ qa_s M = σ := by
        by_cases c2 : a1 < (σ 4 0)
        · replace h := qa_iff (q := 12) (qa_e rfl h) rfl (qa_F_ge c2)
          replace h := qa_push (z := (1 : Int32)) (q := 13) (qa_e rfl h) rfl (by decide)
          replace h := qa_goto (q := 17) (qa_e rfl h) rfl
          exact ⟨lv, M, (qa_hi1 c2 h), hM, es⟩
        · replace h := qa_ift (q := 16) (qa_e rfl h) rfl (qa_T_ge c2)
          replace h := qa_push (z := (0 : Int32)) (q := 17) (qa_e rfl h) rfl (by decide)
          exact ⟨lv, M, (qa_hi0 c2 h), hM, es⟩
      exact ⟨lv, M, (qa_hi0 c1 h), hM, es⟩
  have er := qa_ri (qa_e rfl h)
  subst er
  have e0 : ma_22_4 a1 σ = (if a1 < (0 : Int32) then (0 : Int32) else (if a1 < (σ 4 0) then (1 : Int32) else (0 : Int32))) := by exact rfl
  rw [e0]
  exact ⟨rfl, hM, es⟩
/-- BuriedBySevens, cask, (II)I -/
noncomputable def ma_31_3 (a1 : Int32) (a2 : Int32) (σ : qa_S) : Int32 × qa_S :=
  if (ma_22_4 a1 σ) = (0 : Int32) then
    qa_in ((ma_9_3 (-1 : Int32) σ)) fun r2 =>
    (r2.1, r2.2)
  else
    if a2 < (0 : Int32) then
      qa_in ((ma_9_3 (-2 : Int32) σ)) fun r4 =>
      (r4.1, r4.2)
    else
      if (6 : Int32) < a2 then
        qa_in ((ma_9_3 (-2 : Int32) σ)) fun r6 =>
        (r6.1, r6.2)
      else
        if a2 = (0 : Int32) then
          ((σ 5 a1.toNatClampNeg), σ)
        else
          if a2 = (1 : Int32) then
            ((σ 6 a1.toNatClampNeg), σ)
          else
            if a2 = (6 : Int32) then
              ((σ 7 a1.toNatClampNeg), σ)
            else
              ((σ (9 + a1.toNatClampNeg) (a2 - (2 : Int32)).toNatClampNeg), σ)
theorem mb_31_3 {f : Nat} {M : q4_M} {r : Option Value × q4_M} {σ : qa_S} {a1 : Int32} {a2 : Int32} (hM : qa_O M) (es : qa_s M = σ) (h : q4_run f 31 0 (lv_args 0 [.ref 3, .int (a1), .int (a2)]) [] M 0 0 = some r) : r.1 = some (.int ((ma_31_3 a1 a2 σ).1)) ∧ qa_O r.2 ∧ qa_s r.2 = (ma_31_3 a1 a2 σ).2 := by
  obtain ⟨lv, el⟩ : ∃ l, l = lv_args 0 [.ref 3, .int (a1), .int (a2)] := ⟨_, rfl⟩
  have g0 : q4_get lv 0 = some (.ref 3) := by rw [el]; rfl
  have g1 : q4_get lv 1 = some (.int (a1)) := by rw [el]; rfl
  have g2 : q4_get lv 2 = some (.int (a2)) := by rw [el]; rfl
  rw [← el] at h
  clear el
  replace h := qa_aload (n := 0) (q := 1) (qa_e rfl h) rfl g0
  replace h := qa_gr (b := 4) (j := 0) (q := 4) (qa_e rfl h) rfl hM rfl (by decide)
  replace h := qa_iload (n := 1) (q := 5) (qa_e rfl h) rfl g1
  obtain ⟨M, h, hM, es⟩ := qa_c1 (y := 22) (as := [.ref 4, .int (a1)]) (rest := []) (i := .invokevirtual 22) (q := 8) (qa_e rfl h) (Or.inl rfl) rfl rfl (by decide) rfl (fun r hc => mb_22_4 hM es hc)
  by_cases c1 : (ma_22_4 a1 σ) = (0 : Int32)
  · replace h := qa_icf (q := 11) (qa_e rfl h) rfl (qa_F_ne c1)
    replace h := qa_aload (n := 0) (q := 12) (qa_e rfl h) rfl g0
    replace h := qa_push (z := (-1 : Int32)) (q := 13) (qa_e rfl h) rfl (by decide)
    obtain ⟨r2, er2⟩ : ∃ x, x = (ma_9_3 (-1 : Int32) σ) := ⟨_, rfl⟩
    obtain ⟨M, h, hM, es⟩ := qa_c1 (y := 9) (as := [.ref 3, .int ((-1 : Int32))]) (rest := []) (i := .invokevirtual 9) (q := 16) (qa_e rfl h) (Or.inl rfl) rfl rfl (by decide) rfl (fun r hc => mb_9_3 hM es hc)
    rw [← er2] at h es
    have er := qa_ri (qa_e rfl h)
    subst er
    have e0 : ma_31_3 a1 a2 σ = (r2.1, r2.2) := by exact Eq.trans (if_pos c1) (Eq.trans (qa_ie er2) (rfl))
    rw [e0]
    exact ⟨rfl, hM, es⟩
  · replace h := qa_ict (q := 17) (qa_e rfl h) rfl (qa_T_ne c1)
    replace h := qa_iload (n := 2) (q := 18) (qa_e rfl h) rfl g2
    by_cases c3 : a2 < (0 : Int32)
    · replace h := qa_ict (q := 27) (qa_e rfl h) rfl (qa_T_lt c3)
      replace h := qa_aload (n := 0) (q := 28) (qa_e rfl h) rfl g0
      replace h := qa_push (z := (-2 : Int32)) (q := 30) (qa_e rfl h) rfl (by decide)
      obtain ⟨r4, er4⟩ : ∃ x, x = (ma_9_3 (-2 : Int32) σ) := ⟨_, rfl⟩
      obtain ⟨M, h, hM, es⟩ := qa_c1 (y := 9) (as := [.ref 3, .int ((-2 : Int32))]) (rest := []) (i := .invokevirtual 9) (q := 33) (qa_e rfl h) (Or.inl rfl) rfl rfl (by decide) rfl (fun r hc => mb_9_3 hM es hc)
      rw [← er4] at h es
      have er := qa_ri (qa_e rfl h)
      subst er
      have e0 : ma_31_3 a1 a2 σ = (r4.1, r4.2) := by exact Eq.trans (if_neg c1) (Eq.trans (if_pos c3) (Eq.trans (qa_ie er4) (rfl)))
      rw [e0]
      exact ⟨rfl, hM, es⟩
    · replace h := qa_icf (q := 21) (qa_e rfl h) rfl (qa_F_lt c3)
      replace h := qa_iload (n := 2) (q := 22) (qa_e rfl h) rfl g2
      replace h := qa_push (z := (6 : Int32)) (q := 24) (qa_e rfl h) rfl (by decide)
      by_cases c5 : (6 : Int32) < a2
      · replace h := qa_iff (q := 27) (qa_e rfl h) rfl (qa_F_le c5)
        replace h := qa_aload (n := 0) (q := 28) (qa_e rfl h) rfl g0
        replace h := qa_push (z := (-2 : Int32)) (q := 30) (qa_e rfl h) rfl (by decide)
        obtain ⟨r6, er6⟩ : ∃ x, x = (ma_9_3 (-2 : Int32) σ) := ⟨_, rfl⟩
        obtain ⟨M, h, hM, es⟩ := qa_c1 (y := 9) (as := [.ref 3, .int ((-2 : Int32))]) (rest := []) (i := .invokevirtual 9) (q := 33) (qa_e rfl h) (Or.inl rfl) rfl rfl (by decide) rfl (fun r hc => mb_9_3 hM es hc)
        rw [← er6] at h es
        have er := qa_ri (qa_e rfl h)
        subst er
        have e0 : ma_31_3 a1 a2 σ = (r6.1, r6.2) := by exact Eq.trans (if_neg c1) (Eq.trans (if_neg c3) (Eq.trans (if_pos c5) (Eq.trans (qa_ie er6) (rfl))))
        rw [e0]
        exact ⟨rfl, hM, es⟩
      · replace h := qa_ift (q := 34) (qa_e rfl h) rfl (qa_T_le c5)
        replace h := qa_iload (n := 2) (q := 35) (qa_e rfl h) rfl g2
        by_cases c7 : a2 = (0 : Int32)
        · replace h := qa_ls (T := 68) (q := 68) (qa_e rfl h) (by rw [Op.lookupswitch.offset_cons, if_pos (qa_sp c7 (by decide))]) rfl
          replace h := qa_aload (n := 0) (q := 69) (qa_e rfl h) rfl g0
          replace h := qa_gr (b := 4) (j := 0) (q := 72) (qa_e rfl h) rfl hM rfl (by decide)
          replace h := qa_gr (b := 5) (j := 2) (q := 75) (qa_e rfl h) rfl hM rfl (by decide)
          replace h := qa_iload (n := 1) (q := 76) (qa_e rfl h) rfl g1
          replace h := qa_iaload (jn := a1.toNatClampNeg) (q := 77) (qa_e rfl h) rfl hM es rfl
          have er := qa_ri (qa_e rfl h)
          subst er
          have e0 : ma_31_3 a1 a2 σ = ((σ 5 a1.toNatClampNeg), σ) := by exact Eq.trans (if_neg c1) (Eq.trans (if_neg c3) (Eq.trans (if_neg c5) (Eq.trans (if_pos c7) (rfl))))
          rw [e0]
          exact ⟨rfl, hM, es⟩
        · by_cases c8 : a2 = (1 : Int32)
          · replace h := qa_ls (T := 78) (q := 78) (qa_e rfl h) (by rw [Op.lookupswitch.offset_cons, if_neg (qa_sn c7 (by decide))]; rw [Op.lookupswitch.offset_cons, if_pos (qa_sp c8 (by decide))]) rfl
            replace h := qa_aload (n := 0) (q := 79) (qa_e rfl h) rfl g0
            replace h := qa_gr (b := 4) (j := 0) (q := 82) (qa_e rfl h) rfl hM rfl (by decide)
            replace h := qa_gr (b := 6) (j := 3) (q := 85) (qa_e rfl h) rfl hM rfl (by decide)
            replace h := qa_iload (n := 1) (q := 86) (qa_e rfl h) rfl g1
            replace h := qa_iaload (jn := a1.toNatClampNeg) (q := 87) (qa_e rfl h) rfl hM es rfl
            have er := qa_ri (qa_e rfl h)
            subst er
            have e0 : ma_31_3 a1 a2 σ = ((σ 6 a1.toNatClampNeg), σ) := by exact Eq.trans (if_neg c1) (Eq.trans (if_neg c3) (Eq.trans (if_neg c5) (Eq.trans (if_neg c7) (Eq.trans (if_pos c8) (rfl)))))
            rw [e0]
            exact ⟨rfl, hM, es⟩
          · by_cases c9 : a2 = (6 : Int32)
            · replace h := qa_ls (T := 88) (q := 88) (qa_e rfl h) (by rw [Op.lookupswitch.offset_cons, if_neg (qa_sn c7 (by decide))]; rw [Op.lookupswitch.offset_cons, if_neg (qa_sn c8 (by decide))]; rw [Op.lookupswitch.offset_cons, if_pos (qa_sp c9 (by decide))]) rfl
              replace h := qa_aload (n := 0) (q := 89) (qa_e rfl h) rfl g0
              replace h := qa_gr (b := 4) (j := 0) (q := 92) (qa_e rfl h) rfl hM rfl (by decide)
              replace h := qa_gr (b := 7) (j := 4) (q := 95) (qa_e rfl h) rfl hM rfl (by decide)
              replace h := qa_iload (n := 1) (q := 96) (qa_e rfl h) rfl g1
              replace h := qa_iaload (jn := a1.toNatClampNeg) (q := 97) (qa_e rfl h) rfl hM es rfl
              have er := qa_ri (qa_e rfl h)
              subst er
              have e0 : ma_31_3 a1 a2 σ = ((σ 7 a1.toNatClampNeg), σ) := by exact Eq.trans (if_neg c1) (Eq.trans (if_neg c3) (Eq.trans (if_neg c5) (Eq.trans (if_neg c7) (Eq.trans (if_neg c8) (Eq.trans (if_pos c9) (rfl))))))
              rw [e0]
              exact ⟨rfl, hM, es⟩
            · replace h := qa_ls (T := 98) (q := 98) (qa_e rfl h) (by rw [Op.lookupswitch.offset_cons, if_neg (qa_sn c7 (by decide))]; rw [Op.lookupswitch.offset_cons, if_neg (qa_sn c8 (by decide))]; rw [Op.lookupswitch.offset_cons, if_neg (qa_sn c9 (by decide))]; rfl) rfl
              replace h := qa_aload (n := 0) (q := 99) (qa_e rfl h) rfl g0
              replace h := qa_gr (b := 4) (j := 0) (q := 102) (qa_e rfl h) rfl hM rfl (by decide)
              replace h := qa_gr (b := 8) (j := 5) (q := 105) (qa_e rfl h) rfl hM rfl (by decide)
              replace h := qa_iload (n := 1) (q := 106) (qa_e rfl h) rfl g1
              replace h := qa_aaload (b := 9) (jn := a1.toNatClampNeg) (q := 107) (qa_e rfl h) rfl hM rfl (by decide) (by decide +kernel)
              replace h := qa_iload (n := 2) (q := 108) (qa_e rfl h) rfl g2
              replace h := qa_push (z := (2 : Int32)) (q := 109) (qa_e rfl h) rfl (by decide)
              replace h := qa_isub (q := 110) (qa_e rfl h) rfl
              replace h := qa_iaload (jn := (a2 - (2 : Int32)).toNatClampNeg) (q := 111) (qa_e rfl h) rfl hM es rfl
              have er := qa_ri (qa_e rfl h)
              subst er
              have e0 : ma_31_3 a1 a2 σ = ((σ (9 + a1.toNatClampNeg) (a2 - (2 : Int32)).toNatClampNeg), σ) := by exact Eq.trans (if_neg c1) (Eq.trans (if_neg c3) (Eq.trans (if_neg c5) (Eq.trans (if_neg c7) (Eq.trans (if_neg c8) (Eq.trans (if_neg c9) (rfl))))))
              rw [e0]
              exact ⟨rfl, hM, es⟩
/-- BuriedBySevens$Cellar, hasTaster, (I)Z -/
noncomputable def ma_33_4 (a1 : Int32) (σ : qa_S) : Int32 :=
  (if a1 < (0 : Int32) then (0 : Int32) else (if a1 < (σ 4 1) then (1 : Int32) else (0 : Int32)))
theorem mb_33_4 {f : Nat} {M : q4_M} {r : Option Value × q4_M} {σ : qa_S} {a1 : Int32} (hM : qa_O M) (es : qa_s M = σ) (h : q4_run f 33 0 (lv_args 0 [.ref 4, .int (a1)]) [] M 0 0 = some r) : r.1 = some (.int ((ma_33_4 a1 σ))) ∧ qa_O r.2 ∧ qa_s r.2 = σ := by
  obtain ⟨lv, el⟩ : ∃ l, l = lv_args 0 [.ref 4, .int (a1)] := ⟨_, rfl⟩
  have g0 : q4_get lv 0 = some (.ref 4) := by rw [el]; rfl
  have g1 : q4_get lv 1 = some (.int (a1)) := by rw [el]; rfl
  rw [← el] at h
  clear el
  replace h := qa_iload (n := 1) (q := 1) (qa_e rfl h) rfl g1
  obtain ⟨lv, M, h, hM, es⟩ : ∃ lv M, q4_run f 33 17 lv [.int ((if a1 < (0 : Int32) then (0 : Int32) else (if a1 < (σ 4 1) then (1 : Int32) else (0 : Int32))))] M 0 0 = some r ∧ qa_O M ∧ qa_s M = σ := by
    by_cases c1 : a1 < (0 : Int32)
    · replace h := qa_ict (q := 16) (qa_e rfl h) rfl (qa_T_lt c1)
      replace h := qa_push (z := (0 : Int32)) (q := 17) (qa_e rfl h) rfl (by decide)
      exact ⟨lv, M, (qa_hi1 c1 h), hM, es⟩
    · replace h := qa_icf (q := 4) (qa_e rfl h) rfl (qa_F_lt c1)
      replace h := qa_iload (n := 1) (q := 5) (qa_e rfl h) rfl g1
      replace h := qa_aload (n := 0) (q := 6) (qa_e rfl h) rfl g0
      replace h := qa_gi (j := 1) (q := 9) (qa_e rfl h) rfl hM es rfl (by decide)
      obtain ⟨lv, M, h, hM, es⟩ : ∃ lv M, q4_run f 33 17 lv [.int ((if a1 < (σ 4 1) then (1 : Int32) else (0 : Int32)))] M 0 0 = some r ∧ qa_O M ∧ qa_s M = σ := by
        by_cases c2 : a1 < (σ 4 1)
        · replace h := qa_iff (q := 12) (qa_e rfl h) rfl (qa_F_ge c2)
          replace h := qa_push (z := (1 : Int32)) (q := 13) (qa_e rfl h) rfl (by decide)
          replace h := qa_goto (q := 17) (qa_e rfl h) rfl
          exact ⟨lv, M, (qa_hi1 c2 h), hM, es⟩
        · replace h := qa_ift (q := 16) (qa_e rfl h) rfl (qa_T_ge c2)
          replace h := qa_push (z := (0 : Int32)) (q := 17) (qa_e rfl h) rfl (by decide)
          exact ⟨lv, M, (qa_hi0 c2 h), hM, es⟩
      exact ⟨lv, M, (qa_hi0 c1 h), hM, es⟩
  have er := qa_ri (qa_e rfl h)
  subst er
  have e0 : ma_33_4 a1 σ = (if a1 < (0 : Int32) then (0 : Int32) else (if a1 < (σ 4 1) then (1 : Int32) else (0 : Int32))) := by exact rfl
  rw [e0]
  exact ⟨rfl, hM, es⟩
/-- BuriedBySevens, taster, (II)I -/
noncomputable def ma_32_3 (a1 : Int32) (a2 : Int32) (σ : qa_S) : Int32 × qa_S :=
  if (ma_33_4 a1 σ) = (0 : Int32) then
    qa_in ((ma_9_3 (-1 : Int32) σ)) fun r2 =>
    (r2.1, r2.2)
  else
    if a2 = (0 : Int32) then
      ((σ 24 a1.toNatClampNeg), σ)
    else
      if a2 = (1 : Int32) then
        ((σ 25 a1.toNatClampNeg), σ)
      else
        if a2 = (2 : Int32) then
          ((σ 26 a1.toNatClampNeg), σ)
        else
          qa_in ((ma_9_3 (-2 : Int32) σ)) fun r6 =>
          (r6.1, r6.2)
theorem mb_32_3 {f : Nat} {M : q4_M} {r : Option Value × q4_M} {σ : qa_S} {a1 : Int32} {a2 : Int32} (hM : qa_O M) (es : qa_s M = σ) (h : q4_run f 32 0 (lv_args 0 [.ref 3, .int (a1), .int (a2)]) [] M 0 0 = some r) : r.1 = some (.int ((ma_32_3 a1 a2 σ).1)) ∧ qa_O r.2 ∧ qa_s r.2 = (ma_32_3 a1 a2 σ).2 := by
  obtain ⟨lv, el⟩ : ∃ l, l = lv_args 0 [.ref 3, .int (a1), .int (a2)] := ⟨_, rfl⟩
  have g0 : q4_get lv 0 = some (.ref 3) := by rw [el]; rfl
  have g1 : q4_get lv 1 = some (.int (a1)) := by rw [el]; rfl
  have g2 : q4_get lv 2 = some (.int (a2)) := by rw [el]; rfl
  rw [← el] at h
  clear el
  replace h := qa_aload (n := 0) (q := 1) (qa_e rfl h) rfl g0
  replace h := qa_gr (b := 4) (j := 0) (q := 4) (qa_e rfl h) rfl hM rfl (by decide)
  replace h := qa_iload (n := 1) (q := 5) (qa_e rfl h) rfl g1
  obtain ⟨M, h, hM, es⟩ := qa_c1 (y := 33) (as := [.ref 4, .int (a1)]) (rest := []) (i := .invokevirtual 33) (q := 8) (qa_e rfl h) (Or.inl rfl) rfl rfl (by decide) rfl (fun r hc => mb_33_4 hM es hc)
  by_cases c1 : (ma_33_4 a1 σ) = (0 : Int32)
  · replace h := qa_icf (q := 11) (qa_e rfl h) rfl (qa_F_ne c1)
    replace h := qa_aload (n := 0) (q := 12) (qa_e rfl h) rfl g0
    replace h := qa_push (z := (-1 : Int32)) (q := 13) (qa_e rfl h) rfl (by decide)
    obtain ⟨r2, er2⟩ : ∃ x, x = (ma_9_3 (-1 : Int32) σ) := ⟨_, rfl⟩
    obtain ⟨M, h, hM, es⟩ := qa_c1 (y := 9) (as := [.ref 3, .int ((-1 : Int32))]) (rest := []) (i := .invokevirtual 9) (q := 16) (qa_e rfl h) (Or.inl rfl) rfl rfl (by decide) rfl (fun r hc => mb_9_3 hM es hc)
    rw [← er2] at h es
    have er := qa_ri (qa_e rfl h)
    subst er
    have e0 : ma_32_3 a1 a2 σ = (r2.1, r2.2) := by exact Eq.trans (if_pos c1) (Eq.trans (qa_ie er2) (rfl))
    rw [e0]
    exact ⟨rfl, hM, es⟩
  · replace h := qa_ict (q := 17) (qa_e rfl h) rfl (qa_T_ne c1)
    replace h := qa_iload (n := 2) (q := 18) (qa_e rfl h) rfl g2
    by_cases c3 : a2 = (0 : Int32)
    · replace h := qa_ts (v := 0) (T := 44) (q := 44) (qa_e rfl h) (qa_sp c3 (by decide)).symm (by decide) rfl rfl
      replace h := qa_aload (n := 0) (q := 45) (qa_e rfl h) rfl g0
      replace h := qa_gr (b := 4) (j := 0) (q := 48) (qa_e rfl h) rfl hM rfl (by decide)
      replace h := qa_gr (b := 24) (j := 7) (q := 51) (qa_e rfl h) rfl hM rfl (by decide)
      replace h := qa_iload (n := 1) (q := 52) (qa_e rfl h) rfl g1
      replace h := qa_iaload (jn := a1.toNatClampNeg) (q := 53) (qa_e rfl h) rfl hM es rfl
      have er := qa_ri (qa_e rfl h)
      subst er
      have e0 : ma_32_3 a1 a2 σ = ((σ 24 a1.toNatClampNeg), σ) := by exact Eq.trans (if_neg c1) (Eq.trans (if_pos c3) (rfl))
      rw [e0]
      exact ⟨rfl, hM, es⟩
    · by_cases c4 : a2 = (1 : Int32)
      · replace h := qa_ts (v := 1) (T := 54) (q := 54) (qa_e rfl h) (qa_sp c4 (by decide)).symm (by decide) rfl rfl
        replace h := qa_aload (n := 0) (q := 55) (qa_e rfl h) rfl g0
        replace h := qa_gr (b := 4) (j := 0) (q := 58) (qa_e rfl h) rfl hM rfl (by decide)
        replace h := qa_gr (b := 25) (j := 8) (q := 61) (qa_e rfl h) rfl hM rfl (by decide)
        replace h := qa_iload (n := 1) (q := 62) (qa_e rfl h) rfl g1
        replace h := qa_iaload (jn := a1.toNatClampNeg) (q := 63) (qa_e rfl h) rfl hM es rfl
        have er := qa_ri (qa_e rfl h)
        subst er
        have e0 : ma_32_3 a1 a2 σ = ((σ 25 a1.toNatClampNeg), σ) := by exact Eq.trans (if_neg c1) (Eq.trans (if_neg c3) (Eq.trans (if_pos c4) (rfl)))
        rw [e0]
        exact ⟨rfl, hM, es⟩
      · by_cases c5 : a2 = (2 : Int32)
        · replace h := qa_ts (v := 2) (T := 64) (q := 64) (qa_e rfl h) (qa_sp c5 (by decide)).symm (by decide) rfl rfl
          replace h := qa_aload (n := 0) (q := 65) (qa_e rfl h) rfl g0
          replace h := qa_gr (b := 4) (j := 0) (q := 68) (qa_e rfl h) rfl hM rfl (by decide)
          replace h := qa_gr (b := 26) (j := 9) (q := 71) (qa_e rfl h) rfl hM rfl (by decide)
          replace h := qa_iload (n := 1) (q := 72) (qa_e rfl h) rfl g1
          replace h := qa_iaload (jn := a1.toNatClampNeg) (q := 73) (qa_e rfl h) rfl hM es rfl
          have er := qa_ri (qa_e rfl h)
          subst er
          have e0 : ma_32_3 a1 a2 σ = ((σ 26 a1.toNatClampNeg), σ) := by exact Eq.trans (if_neg c1) (Eq.trans (if_neg c3) (Eq.trans (if_neg c4) (Eq.trans (if_pos c5) (rfl))))
          rw [e0]
          exact ⟨rfl, hM, es⟩
        · replace h := qa_tsd (q := 74) (qa_e rfl h) (by have n0 := qa_sn (v := 0) c3 (by decide); have n1 := qa_sn (v := 1) c4 (by decide); have n2 := qa_sn (v := 2) c5 (by decide); omega) rfl
          replace h := qa_aload (n := 0) (q := 75) (qa_e rfl h) rfl g0
          replace h := qa_push (z := (-2 : Int32)) (q := 77) (qa_e rfl h) rfl (by decide)
          obtain ⟨r6, er6⟩ : ∃ x, x = (ma_9_3 (-2 : Int32) σ) := ⟨_, rfl⟩
          obtain ⟨M, h, hM, es⟩ := qa_c1 (y := 9) (as := [.ref 3, .int ((-2 : Int32))]) (rest := []) (i := .invokevirtual 9) (q := 80) (qa_e rfl h) (Or.inl rfl) rfl rfl (by decide) rfl (fun r hc => mb_9_3 hM es hc)
          rw [← er6] at h es
          have er := qa_ri (qa_e rfl h)
          subst er
          have e0 : ma_32_3 a1 a2 σ = (r6.1, r6.2) := by exact Eq.trans (if_neg c1) (Eq.trans (if_neg c3) (Eq.trans (if_neg c4) (Eq.trans (if_neg c5) (Eq.trans (qa_ie er6) (rfl)))))
          rw [e0]
          exact ⟨rfl, hM, es⟩
noncomputable def mc_20_4_p46 (N : Nat) (s : Int32 × Int32 × qa_S) : (Int32 × Int32 × qa_S) ⊕ (Int32 × Int32 × qa_S) :=
  if s.1 < (0 : Int32) then
    .inr (s.1, s.2.1, s.2.2)
  else
    qa_in (qa_u s.2.2 (9 + (s.2.2 4 0).toNatClampNeg) s.1.toNatClampNeg (s.2.1 - s.2.1 / (10 : Int32) * (10 : Int32))) fun m2 =>
    .inl ((s.1 + (-1 : Int32)), (s.2.1 / (10 : Int32)), m2)
theorem md_20_4_p46 {N F : Nat} {r : Option Value × q4_M} (hN : F ≤ N) : ∀ f n, f ≤ n → f ≤ F → ∀ (s : Int32 × Int32 × qa_S) (lv : List (Nat × Value)) (M : q4_M), qa_O M → qa_s M = s.2.2 → q4_get lv 0 = some (.ref 4) → q4_get lv 4 = some (.int (s.2.1)) → q4_get lv 5 = some (.int (s.1)) → q4_run f 20 46 lv [] M 0 0 = some r → ∃ lv M, q4_run F 20 81 lv [] M 0 0 = some r ∧ qa_O M ∧ qa_s M = (qa_wh (fun s => s) (mc_20_4_p46 N) n s).2.2 ∧ q4_get lv 0 = some (.ref 4) := by
  intro f
  induction f with
  | zero => intro n _ _ s lv M hM es _ _ _ h; cases h
  | succ f ih =>
    intro n hn hF s lv M hM es g0 g4 g5 h
    obtain ⟨n, rfl⟩ : ∃ n1, n = n1 + 1 := ⟨n - 1, by omega⟩
    replace hn : f ≤ n := Nat.le_of_succ_le_succ hn
    have hN := Nat.le_trans (Nat.le_of_succ_le hF) hN
    replace h := qa_iload (n := 5) (q := 48) (qa_d rfl h) rfl g5
    by_cases c1 : s.1 < (0 : Int32)
    · replace h := qa_ict (q := 81) (qa_e rfl h) rfl (qa_T_lt c1)
      have e0 : mc_20_4_p46 N s = .inr (s.1, s.2.1, s.2.2) := by exact Eq.trans (if_pos c1) (rfl)
      rw [qa_whr e0]
      exact ⟨_, _, q61_mono f F _ _ _ _ _ _ _ _ (Nat.le_of_succ_le hF) h, hM, es, g0⟩
    · replace h := qa_icf (q := 51) (qa_e rfl h) rfl (qa_F_lt c1)
      replace h := qa_aload (n := 0) (q := 52) (qa_e rfl h) rfl g0
      replace h := qa_gr (b := 8) (j := 5) (q := 55) (qa_e rfl h) rfl hM rfl (by decide)
      replace h := qa_aload (n := 0) (q := 56) (qa_e rfl h) rfl g0
      replace h := qa_gi (j := 0) (q := 59) (qa_e rfl h) rfl hM es rfl (by decide)
      replace h := qa_aaload (b := 9) (jn := (s.2.2 4 0).toNatClampNeg) (q := 60) (qa_e rfl h) rfl hM rfl (by decide) (by decide +kernel)
      replace h := qa_iload (n := 5) (q := 62) (qa_e rfl h) rfl g5
      replace h := qa_iload (n := 4) (q := 64) (qa_e rfl h) rfl g4
      replace h := qa_push (z := (10 : Int32)) (q := 66) (qa_e rfl h) rfl (by decide)
      replace h := qa_irem (q := 67) (qa_e rfl h) rfl
      obtain ⟨m2, em2⟩ : ∃ x, x = qa_u s.2.2 (9 + (s.2.2 4 0).toNatClampNeg) s.1.toNatClampNeg (s.2.1 - s.2.1 / (10 : Int32) * (10 : Int32)) := ⟨_, rfl⟩
      obtain ⟨M, h, hM, es⟩ := qa_iastore (jn := s.1.toNatClampNeg) (q := 68) (qa_e rfl h) rfl hM es rfl
      rw [← em2] at es
      replace h := qa_iload (n := 4) (q := 70) (qa_e rfl h) rfl g4
      replace h := qa_push (z := (10 : Int32)) (q := 72) (qa_e rfl h) rfl (by decide)
      replace h := qa_idiv (q := 73) (qa_e rfl h) rfl
      obtain ⟨lv, h, g, T⟩ := qa_istore (n := 4) (q := 75) (qa_e rfl h) rfl
      replace g0 := T _ _ g0 (by decide) (Or.inr rfl)
      replace g5 := T _ _ g5 (by decide) (Or.inr rfl)
      have g4 := g
      clear g T
      obtain ⟨lv, h, g, T⟩ := qa_iinc (n := 5) (z := (-1 : Int32)) (q := 78) (qa_e rfl h) rfl (by decide) g5
      replace g0 := T _ _ g0 (by decide) (Or.inr rfl)
      replace g4 := T _ _ g4 (by decide) (Or.inr rfl)
      replace g5 := g
      clear g T
      replace h := qa_goto (q := 46) (qa_e rfl h) rfl
      have e0 : mc_20_4_p46 N s = .inl ((s.1 + (-1 : Int32)), (s.2.1 / (10 : Int32)), m2) := by exact Eq.trans (if_neg c1) (Eq.trans (qa_ie em2) (rfl))
      rw [qa_whl e0]
      exact ih n hn (Nat.le_of_succ_le hF) ((s.1 + (-1 : Int32)), (s.2.1 / (10 : Int32)), m2) _ _ hM es g0 g4 g5 h
/-- BuriedBySevens$Cellar, addCask, (III)V -/
noncomputable def ma_20_4 (N : Nat) (a1 : Int32) (a2 : Int32) (a3 : Int32) (σ : qa_S) : qa_S :=
  if (σ 4 0) < (7 : Int32) then
    qa_in (qa_u σ 5 (σ 4 0).toNatClampNeg a1) fun m2 =>
    qa_in (qa_u m2 6 (m2 4 0).toNatClampNeg a2) fun m3 =>
    qa_in (qa_u m3 7 (m3 4 0).toNatClampNeg (0 : Int32)) fun m4 =>
    qa_in ((qa_wh (fun s => s) (mc_20_4_p46 N) N ((3 : Int32), a3, m4))) fun r5 =>
    qa_in (qa_u r5.2.2 4 0 ((r5.2.2 4 0) + (1 : Int32))) fun m6 =>
    m6
  else
    σ
theorem mb_20_4 {f N : Nat} (hN : f ≤ N) {M : q4_M} {r : Option Value × q4_M} {σ : qa_S} {a1 : Int32} {a2 : Int32} {a3 : Int32} (hM : qa_O M) (es : qa_s M = σ) (h : q4_run f 20 0 (lv_args 0 [.ref 4, .int (a1), .int (a2), .int (a3)]) [] M 0 0 = some r) : r.1 = none ∧ qa_O r.2 ∧ qa_s r.2 = (ma_20_4 N a1 a2 a3 σ) := by
  obtain ⟨lv, el⟩ : ∃ l, l = lv_args 0 [.ref 4, .int (a1), .int (a2), .int (a3)] := ⟨_, rfl⟩
  have g0 : q4_get lv 0 = some (.ref 4) := by rw [el]; rfl
  have g1 : q4_get lv 1 = some (.int (a1)) := by rw [el]; rfl
  have g2 : q4_get lv 2 = some (.int (a2)) := by rw [el]; rfl
  have g3 : q4_get lv 3 = some (.int (a3)) := by rw [el]; rfl
  rw [← el] at h
  clear el
  replace h := qa_aload (n := 0) (q := 1) (qa_e rfl h) rfl g0
  replace h := qa_gi (j := 0) (q := 4) (qa_e rfl h) rfl hM es rfl (by decide)
  replace h := qa_push (z := (7 : Int32)) (q := 6) (qa_e rfl h) rfl (by decide)
  by_cases c1 : (σ 4 0) < (7 : Int32)
  · replace h := qa_ift (q := 10) (qa_e rfl h) rfl (qa_T_lt c1)
    replace h := qa_aload (n := 0) (q := 11) (qa_e rfl h) rfl g0
    replace h := qa_gr (b := 5) (j := 2) (q := 14) (qa_e rfl h) rfl hM rfl (by decide)
    replace h := qa_aload (n := 0) (q := 15) (qa_e rfl h) rfl g0
    replace h := qa_gi (j := 0) (q := 18) (qa_e rfl h) rfl hM es rfl (by decide)
    replace h := qa_iload (n := 1) (q := 19) (qa_e rfl h) rfl g1
    obtain ⟨m2, em2⟩ : ∃ x, x = qa_u σ 5 (σ 4 0).toNatClampNeg a1 := ⟨_, rfl⟩
    obtain ⟨M, h, hM, es⟩ := qa_iastore (jn := (σ 4 0).toNatClampNeg) (q := 20) (qa_e rfl h) rfl hM es rfl
    rw [← em2] at es
    replace h := qa_aload (n := 0) (q := 21) (qa_e rfl h) rfl g0
    replace h := qa_gr (b := 6) (j := 3) (q := 24) (qa_e rfl h) rfl hM rfl (by decide)
    replace h := qa_aload (n := 0) (q := 25) (qa_e rfl h) rfl g0
    replace h := qa_gi (j := 0) (q := 28) (qa_e rfl h) rfl hM es rfl (by decide)
    replace h := qa_iload (n := 2) (q := 29) (qa_e rfl h) rfl g2
    obtain ⟨m3, em3⟩ : ∃ x, x = qa_u m2 6 (m2 4 0).toNatClampNeg a2 := ⟨_, rfl⟩
    obtain ⟨M, h, hM, es⟩ := qa_iastore (jn := (m2 4 0).toNatClampNeg) (q := 30) (qa_e rfl h) rfl hM es rfl
    rw [← em3] at es
    replace h := qa_aload (n := 0) (q := 31) (qa_e rfl h) rfl g0
    replace h := qa_gr (b := 7) (j := 4) (q := 34) (qa_e rfl h) rfl hM rfl (by decide)
    replace h := qa_aload (n := 0) (q := 35) (qa_e rfl h) rfl g0
    replace h := qa_gi (j := 0) (q := 38) (qa_e rfl h) rfl hM es rfl (by decide)
    replace h := qa_push (z := (0 : Int32)) (q := 39) (qa_e rfl h) rfl (by decide)
    obtain ⟨m4, em4⟩ : ∃ x, x = qa_u m3 7 (m3 4 0).toNatClampNeg (0 : Int32) := ⟨_, rfl⟩
    obtain ⟨M, h, hM, es⟩ := qa_iastore (jn := (m3 4 0).toNatClampNeg) (q := 40) (qa_e rfl h) rfl hM es rfl
    rw [← em4] at es
    replace h := qa_iload (n := 3) (q := 41) (qa_e rfl h) rfl g3
    obtain ⟨lv, h, g, T⟩ := qa_istore (n := 4) (q := 43) (qa_e rfl h) rfl
    replace g0 := T _ _ g0 (by decide) (Or.inr rfl)
    have g4 := g
    clear g T
    replace h := qa_push (z := (3 : Int32)) (q := 44) (qa_e rfl h) rfl (by decide)
    obtain ⟨lv, h, g, T⟩ := qa_istore (n := 5) (q := 46) (qa_e rfl h) rfl
    replace g0 := T _ _ g0 (by decide) (Or.inr rfl)
    replace g4 := T _ _ g4 (by decide) (Or.inr rfl)
    have g5 := g
    clear g T
    obtain ⟨r5, er5⟩ : ∃ x, x = (qa_wh (fun s => s) (mc_20_4_p46 N) N ((3 : Int32), a3, m4)) := ⟨_, rfl⟩
    have L := md_20_4_p46 (F := f) (N := N) (r := r) hN f N hN (Nat.le_refl f) ((3 : Int32), a3, m4) _ _ hM es g0 g4 g5 h
    rw [← er5] at L
    obtain ⟨lv, M, h, hM, es, g0⟩ := L
    replace h := qa_aload (n := 0) (q := 82) (qa_e rfl h) rfl g0
    replace h := qa_dupa (q := 83) (qa_e rfl h) rfl
    replace h := qa_gi (j := 0) (q := 86) (qa_e rfl h) rfl hM es rfl (by decide)
    replace h := qa_push (z := (1 : Int32)) (q := 87) (qa_e rfl h) rfl (by decide)
    replace h := qa_iadd (q := 88) (qa_e rfl h) rfl
    obtain ⟨m6, em6⟩ : ∃ x, x = qa_u r5.2.2 4 0 ((r5.2.2 4 0) + (1 : Int32)) := ⟨_, rfl⟩
    obtain ⟨M, h, hM, es⟩ := qa_pf (j := 0) (q := 91) (qa_e rfl h) rfl hM es rfl (by decide)
    rw [← em6] at es
    have er := qa_rv (qa_e rfl h)
    subst er
    have e0 : ma_20_4 N a1 a2 a3 σ = m6 := by exact Eq.trans (if_pos c1) (Eq.trans (qa_ie em2) (Eq.trans (qa_ie em3) (Eq.trans (qa_ie em4) (Eq.trans (qa_ie er5) (Eq.trans (qa_ie em6) (rfl))))))
    rw [e0]
    exact ⟨rfl, hM, es⟩
  · replace h := qa_iff (q := 9) (qa_e rfl h) rfl (qa_F_lt c1)
    have er := qa_rv (qa_e rfl h)
    subst er
    have e0 : ma_20_4 N a1 a2 a3 σ = σ := by exact Eq.trans (if_neg c1) (rfl)
    rw [e0]
    exact ⟨rfl, hM, es⟩
/-- BuriedBySevens, comes, (III)I -/
noncomputable def ma_34_3 (N : Nat) (a1 : Int32) (a2 : Int32) (a3 : Int32) (σ : qa_S) : Int32 × qa_S :=
  if (ma_19 a1) = (0 : Int32) then
    qa_in ((ma_9_3 (-2 : Int32) σ)) fun r2 =>
    (r2.1, r2.2)
  else
    if a2 < (0 : Int32) then
      qa_in ((ma_9_3 (-4 : Int32) σ)) fun r4 =>
      (r4.1, r4.2)
    else
      if a3 < (0 : Int32) then
        qa_in ((ma_9_3 (-4 : Int32) σ)) fun r6 =>
        (r6.1, r6.2)
      else
        if (9 : Int32) < a2 then
          qa_in ((ma_9_3 (-6 : Int32) σ)) fun r8 =>
          (r8.1, r8.2)
        else
          if (9999 : Int32) < a3 then
            qa_in ((ma_9_3 (-6 : Int32) σ)) fun r10 =>
            (r10.1, r10.2)
          else
            if (σ 4 0) < (7 : Int32) then
              qa_in ((ma_20_4 N a1 a2 a3 σ)) fun m12 =>
              qa_in ((ma_27_3 N m12)) fun m13 =>
              (((m13 4 0) - (1 : Int32)), m13)
            else
              qa_in ((ma_9_3 (-6 : Int32) σ)) fun r14 =>
              (r14.1, r14.2)
theorem mb_34_3 {f N : Nat} (hN : f ≤ N) {M : q4_M} {r : Option Value × q4_M} {σ : qa_S} {a1 : Int32} {a2 : Int32} {a3 : Int32} (hM : qa_O M) (es : qa_s M = σ) (h : q4_run f 34 0 (lv_args 0 [.ref 3, .int (a1), .int (a2), .int (a3)]) [] M 0 0 = some r) : r.1 = some (.int ((ma_34_3 N a1 a2 a3 σ).1)) ∧ qa_O r.2 ∧ qa_s r.2 = (ma_34_3 N a1 a2 a3 σ).2 := by
  obtain ⟨lv, el⟩ : ∃ l, l = lv_args 0 [.ref 3, .int (a1), .int (a2), .int (a3)] := ⟨_, rfl⟩
  have g0 : q4_get lv 0 = some (.ref 3) := by rw [el]; rfl
  have g1 : q4_get lv 1 = some (.int (a1)) := by rw [el]; rfl
  have g2 : q4_get lv 2 = some (.int (a2)) := by rw [el]; rfl
  have g3 : q4_get lv 3 = some (.int (a3)) := by rw [el]; rfl
  rw [← el] at h
  clear el
  replace h := qa_iload (n := 1) (q := 1) (qa_e rfl h) rfl g1
  obtain ⟨M, h, hM, es⟩ := qa_c1 (y := 19) (as := [.int (a1)]) (rest := []) (i := .invokestatic 19) (q := 4) (qa_e rfl h) (Or.inr rfl) rfl rfl (by decide) rfl (fun r hc => mb_19 hM es hc)
  by_cases c1 : (ma_19 a1) = (0 : Int32)
  · replace h := qa_icf (q := 7) (qa_e rfl h) rfl (qa_F_ne c1)
    replace h := qa_aload (n := 0) (q := 8) (qa_e rfl h) rfl g0
    replace h := qa_push (z := (-2 : Int32)) (q := 10) (qa_e rfl h) rfl (by decide)
    obtain ⟨r2, er2⟩ : ∃ x, x = (ma_9_3 (-2 : Int32) σ) := ⟨_, rfl⟩
    obtain ⟨M, h, hM, es⟩ := qa_c1 (y := 9) (as := [.ref 3, .int ((-2 : Int32))]) (rest := []) (i := .invokevirtual 9) (q := 13) (qa_e rfl h) (Or.inl rfl) rfl rfl (by decide) rfl (fun r hc => mb_9_3 hM es hc)
    rw [← er2] at h es
    have er := qa_ri (qa_e rfl h)
    subst er
    have e0 : ma_34_3 N a1 a2 a3 σ = (r2.1, r2.2) := by exact Eq.trans (if_pos c1) (Eq.trans (qa_ie er2) (rfl))
    rw [e0]
    exact ⟨rfl, hM, es⟩
  · replace h := qa_ict (q := 14) (qa_e rfl h) rfl (qa_T_ne c1)
    replace h := qa_iload (n := 2) (q := 15) (qa_e rfl h) rfl g2
    by_cases c3 : a2 < (0 : Int32)
    · replace h := qa_ict (q := 22) (qa_e rfl h) rfl (qa_T_lt c3)
      replace h := qa_aload (n := 0) (q := 23) (qa_e rfl h) rfl g0
      replace h := qa_push (z := (-4 : Int32)) (q := 25) (qa_e rfl h) rfl (by decide)
      obtain ⟨r4, er4⟩ : ∃ x, x = (ma_9_3 (-4 : Int32) σ) := ⟨_, rfl⟩
      obtain ⟨M, h, hM, es⟩ := qa_c1 (y := 9) (as := [.ref 3, .int ((-4 : Int32))]) (rest := []) (i := .invokevirtual 9) (q := 28) (qa_e rfl h) (Or.inl rfl) rfl rfl (by decide) rfl (fun r hc => mb_9_3 hM es hc)
      rw [← er4] at h es
      have er := qa_ri (qa_e rfl h)
      subst er
      have e0 : ma_34_3 N a1 a2 a3 σ = (r4.1, r4.2) := by exact Eq.trans (if_neg c1) (Eq.trans (if_pos c3) (Eq.trans (qa_ie er4) (rfl)))
      rw [e0]
      exact ⟨rfl, hM, es⟩
    · replace h := qa_icf (q := 18) (qa_e rfl h) rfl (qa_F_lt c3)
      replace h := qa_iload (n := 3) (q := 19) (qa_e rfl h) rfl g3
      by_cases c5 : a3 < (0 : Int32)
      · replace h := qa_icf (q := 22) (qa_e rfl h) rfl (qa_F_ge c5)
        replace h := qa_aload (n := 0) (q := 23) (qa_e rfl h) rfl g0
        replace h := qa_push (z := (-4 : Int32)) (q := 25) (qa_e rfl h) rfl (by decide)
        obtain ⟨r6, er6⟩ : ∃ x, x = (ma_9_3 (-4 : Int32) σ) := ⟨_, rfl⟩
        obtain ⟨M, h, hM, es⟩ := qa_c1 (y := 9) (as := [.ref 3, .int ((-4 : Int32))]) (rest := []) (i := .invokevirtual 9) (q := 28) (qa_e rfl h) (Or.inl rfl) rfl rfl (by decide) rfl (fun r hc => mb_9_3 hM es hc)
        rw [← er6] at h es
        have er := qa_ri (qa_e rfl h)
        subst er
        have e0 : ma_34_3 N a1 a2 a3 σ = (r6.1, r6.2) := by exact Eq.trans (if_neg c1) (Eq.trans (if_neg c3) (Eq.trans (if_pos c5) (Eq.trans (qa_ie er6) (rfl))))
        rw [e0]
        exact ⟨rfl, hM, es⟩
      · replace h := qa_ict (q := 29) (qa_e rfl h) rfl (qa_T_ge c5)
        replace h := qa_iload (n := 2) (q := 30) (qa_e rfl h) rfl g2
        replace h := qa_push (z := (9 : Int32)) (q := 32) (qa_e rfl h) rfl (by decide)
        by_cases c7 : (9 : Int32) < a2
        · replace h := qa_ift (q := 54) (qa_e rfl h) rfl (qa_T_gt c7)
          replace h := qa_aload (n := 0) (q := 55) (qa_e rfl h) rfl g0
          replace h := qa_push (z := (-6 : Int32)) (q := 57) (qa_e rfl h) rfl (by decide)
          obtain ⟨r8, er8⟩ : ∃ x, x = (ma_9_3 (-6 : Int32) σ) := ⟨_, rfl⟩
          obtain ⟨M, h, hM, es⟩ := qa_c1 (y := 9) (as := [.ref 3, .int ((-6 : Int32))]) (rest := []) (i := .invokevirtual 9) (q := 60) (qa_e rfl h) (Or.inl rfl) rfl rfl (by decide) rfl (fun r hc => mb_9_3 hM es hc)
          rw [← er8] at h es
          have er := qa_ri (qa_e rfl h)
          subst er
          have e0 : ma_34_3 N a1 a2 a3 σ = (r8.1, r8.2) := by exact Eq.trans (if_neg c1) (Eq.trans (if_neg c3) (Eq.trans (if_neg c5) (Eq.trans (if_pos c7) (Eq.trans (qa_ie er8) (rfl)))))
          rw [e0]
          exact ⟨rfl, hM, es⟩
        · replace h := qa_iff (q := 35) (qa_e rfl h) rfl (qa_F_gt c7)
          replace h := qa_iload (n := 3) (q := 36) (qa_e rfl h) rfl g3
          replace h := qa_push (z := (9999 : Int32)) (q := 39) (qa_e rfl h) rfl (by decide)
          by_cases c9 : (9999 : Int32) < a3
          · replace h := qa_ift (q := 54) (qa_e rfl h) rfl (qa_T_gt c9)
            replace h := qa_aload (n := 0) (q := 55) (qa_e rfl h) rfl g0
            replace h := qa_push (z := (-6 : Int32)) (q := 57) (qa_e rfl h) rfl (by decide)
            obtain ⟨r10, er10⟩ : ∃ x, x = (ma_9_3 (-6 : Int32) σ) := ⟨_, rfl⟩
            obtain ⟨M, h, hM, es⟩ := qa_c1 (y := 9) (as := [.ref 3, .int ((-6 : Int32))]) (rest := []) (i := .invokevirtual 9) (q := 60) (qa_e rfl h) (Or.inl rfl) rfl rfl (by decide) rfl (fun r hc => mb_9_3 hM es hc)
            rw [← er10] at h es
            have er := qa_ri (qa_e rfl h)
            subst er
            have e0 : ma_34_3 N a1 a2 a3 σ = (r10.1, r10.2) := by exact Eq.trans (if_neg c1) (Eq.trans (if_neg c3) (Eq.trans (if_neg c5) (Eq.trans (if_neg c7) (Eq.trans (if_pos c9) (Eq.trans (qa_ie er10) (rfl))))))
            rw [e0]
            exact ⟨rfl, hM, es⟩
          · replace h := qa_iff (q := 42) (qa_e rfl h) rfl (qa_F_gt c9)
            replace h := qa_aload (n := 0) (q := 43) (qa_e rfl h) rfl g0
            replace h := qa_gr (b := 4) (j := 0) (q := 46) (qa_e rfl h) rfl hM rfl (by decide)
            replace h := qa_gi (j := 0) (q := 49) (qa_e rfl h) rfl hM es rfl (by decide)
            replace h := qa_push (z := (7 : Int32)) (q := 51) (qa_e rfl h) rfl (by decide)
            by_cases c11 : (σ 4 0) < (7 : Int32)
            · replace h := qa_ift (q := 61) (qa_e rfl h) rfl (qa_T_lt c11)
              replace h := qa_aload (n := 0) (q := 62) (qa_e rfl h) rfl g0
              replace h := qa_gr (b := 4) (j := 0) (q := 65) (qa_e rfl h) rfl hM rfl (by decide)
              replace h := qa_iload (n := 1) (q := 66) (qa_e rfl h) rfl g1
              replace h := qa_iload (n := 2) (q := 67) (qa_e rfl h) rfl g2
              replace h := qa_iload (n := 3) (q := 68) (qa_e rfl h) rfl g3
              obtain ⟨m12, em12⟩ : ∃ x, x = (ma_20_4 N a1 a2 a3 σ) := ⟨_, rfl⟩
              obtain ⟨M, h, hM, es⟩ := qa_c0 (y := 20) (as := [.ref 4, .int (a1), .int (a2), .int (a3)]) (rest := []) (i := .invokevirtual 20) (q := 71) (qa_e rfl h) (Or.inl rfl) rfl rfl (by decide) rfl (fun r hc => mb_20_4 hN hM es hc)
              rw [← em12] at es
              replace h := qa_aload (n := 0) (q := 72) (qa_e rfl h) rfl g0
              obtain ⟨m13, em13⟩ : ∃ x, x = (ma_27_3 N m12) := ⟨_, rfl⟩
              obtain ⟨M, h, hM, es⟩ := qa_c0 (y := 27) (as := [.ref 3]) (rest := []) (i := .invokevirtual 27) (q := 75) (qa_e rfl h) (Or.inl rfl) rfl rfl (by decide) rfl (fun r hc => mb_27_3 hN hM es hc)
              rw [← em13] at es
              replace h := qa_aload (n := 0) (q := 76) (qa_e rfl h) rfl g0
              replace h := qa_gr (b := 4) (j := 0) (q := 79) (qa_e rfl h) rfl hM rfl (by decide)
              replace h := qa_gi (j := 0) (q := 82) (qa_e rfl h) rfl hM es rfl (by decide)
              replace h := qa_push (z := (1 : Int32)) (q := 83) (qa_e rfl h) rfl (by decide)
              replace h := qa_isub (q := 84) (qa_e rfl h) rfl
              have er := qa_ri (qa_e rfl h)
              subst er
              have e0 : ma_34_3 N a1 a2 a3 σ = (((m13 4 0) - (1 : Int32)), m13) := by exact Eq.trans (if_neg c1) (Eq.trans (if_neg c3) (Eq.trans (if_neg c5) (Eq.trans (if_neg c7) (Eq.trans (if_neg c9) (Eq.trans (if_pos c11) (Eq.trans (qa_ie em12) (Eq.trans (qa_ie em13) (rfl))))))))
              rw [e0]
              exact ⟨rfl, hM, es⟩
            · replace h := qa_iff (q := 54) (qa_e rfl h) rfl (qa_F_lt c11)
              replace h := qa_aload (n := 0) (q := 55) (qa_e rfl h) rfl g0
              replace h := qa_push (z := (-6 : Int32)) (q := 57) (qa_e rfl h) rfl (by decide)
              obtain ⟨r14, er14⟩ : ∃ x, x = (ma_9_3 (-6 : Int32) σ) := ⟨_, rfl⟩
              obtain ⟨M, h, hM, es⟩ := qa_c1 (y := 9) (as := [.ref 3, .int ((-6 : Int32))]) (rest := []) (i := .invokevirtual 9) (q := 60) (qa_e rfl h) (Or.inl rfl) rfl rfl (by decide) rfl (fun r hc => mb_9_3 hM es hc)
              rw [← er14] at h es
              have er := qa_ri (qa_e rfl h)
              subst er
              have e0 : ma_34_3 N a1 a2 a3 σ = (r14.1, r14.2) := by exact Eq.trans (if_neg c1) (Eq.trans (if_neg c3) (Eq.trans (if_neg c5) (Eq.trans (if_neg c7) (Eq.trans (if_neg c9) (Eq.trans (if_neg c11) (Eq.trans (qa_ie er14) (rfl)))))))
              rw [e0]
              exact ⟨rfl, hM, es⟩
/-- BuriedBySevens$Cellar, addTaster, (III)V -/
noncomputable def ma_24_4 (a1 : Int32) (a2 : Int32) (a3 : Int32) (σ : qa_S) : qa_S :=
  if (σ 4 1) < (6 : Int32) then
    qa_in (qa_u σ 24 (σ 4 1).toNatClampNeg a1) fun m2 =>
    qa_in (qa_u m2 25 (m2 4 1).toNatClampNeg a2) fun m3 =>
    qa_in (qa_u m3 26 (m3 4 1).toNatClampNeg a3) fun m4 =>
    qa_in (qa_u m4 4 1 ((m4 4 1) + (1 : Int32))) fun m5 =>
    m5
  else
    σ
theorem mb_24_4 {f : Nat} {M : q4_M} {r : Option Value × q4_M} {σ : qa_S} {a1 : Int32} {a2 : Int32} {a3 : Int32} (hM : qa_O M) (es : qa_s M = σ) (h : q4_run f 24 0 (lv_args 0 [.ref 4, .int (a1), .int (a2), .int (a3)]) [] M 0 0 = some r) : r.1 = none ∧ qa_O r.2 ∧ qa_s r.2 = (ma_24_4 a1 a2 a3 σ) := by
  obtain ⟨lv, el⟩ : ∃ l, l = lv_args 0 [.ref 4, .int (a1), .int (a2), .int (a3)] := ⟨_, rfl⟩
  have g0 : q4_get lv 0 = some (.ref 4) := by rw [el]; rfl
  have g1 : q4_get lv 1 = some (.int (a1)) := by rw [el]; rfl
  have g2 : q4_get lv 2 = some (.int (a2)) := by rw [el]; rfl
  have g3 : q4_get lv 3 = some (.int (a3)) := by rw [el]; rfl
  rw [← el] at h
  clear el
  replace h := qa_aload (n := 0) (q := 1) (qa_e rfl h) rfl g0
  replace h := qa_gi (j := 1) (q := 4) (qa_e rfl h) rfl hM es rfl (by decide)
  replace h := qa_push (z := (6 : Int32)) (q := 6) (qa_e rfl h) rfl (by decide)
  by_cases c1 : (σ 4 1) < (6 : Int32)
  · replace h := qa_ift (q := 10) (qa_e rfl h) rfl (qa_T_lt c1)
    replace h := qa_aload (n := 0) (q := 11) (qa_e rfl h) rfl g0
    replace h := qa_gr (b := 24) (j := 7) (q := 14) (qa_e rfl h) rfl hM rfl (by decide)
    replace h := qa_aload (n := 0) (q := 15) (qa_e rfl h) rfl g0
    replace h := qa_gi (j := 1) (q := 18) (qa_e rfl h) rfl hM es rfl (by decide)
    replace h := qa_iload (n := 1) (q := 19) (qa_e rfl h) rfl g1
    obtain ⟨m2, em2⟩ : ∃ x, x = qa_u σ 24 (σ 4 1).toNatClampNeg a1 := ⟨_, rfl⟩
    obtain ⟨M, h, hM, es⟩ := qa_iastore (jn := (σ 4 1).toNatClampNeg) (q := 20) (qa_e rfl h) rfl hM es rfl
    rw [← em2] at es
    replace h := qa_aload (n := 0) (q := 21) (qa_e rfl h) rfl g0
    replace h := qa_gr (b := 25) (j := 8) (q := 24) (qa_e rfl h) rfl hM rfl (by decide)
    replace h := qa_aload (n := 0) (q := 25) (qa_e rfl h) rfl g0
    replace h := qa_gi (j := 1) (q := 28) (qa_e rfl h) rfl hM es rfl (by decide)
    replace h := qa_iload (n := 2) (q := 29) (qa_e rfl h) rfl g2
    obtain ⟨m3, em3⟩ : ∃ x, x = qa_u m2 25 (m2 4 1).toNatClampNeg a2 := ⟨_, rfl⟩
    obtain ⟨M, h, hM, es⟩ := qa_iastore (jn := (m2 4 1).toNatClampNeg) (q := 30) (qa_e rfl h) rfl hM es rfl
    rw [← em3] at es
    replace h := qa_aload (n := 0) (q := 31) (qa_e rfl h) rfl g0
    replace h := qa_gr (b := 26) (j := 9) (q := 34) (qa_e rfl h) rfl hM rfl (by decide)
    replace h := qa_aload (n := 0) (q := 35) (qa_e rfl h) rfl g0
    replace h := qa_gi (j := 1) (q := 38) (qa_e rfl h) rfl hM es rfl (by decide)
    replace h := qa_iload (n := 3) (q := 39) (qa_e rfl h) rfl g3
    obtain ⟨m4, em4⟩ : ∃ x, x = qa_u m3 26 (m3 4 1).toNatClampNeg a3 := ⟨_, rfl⟩
    obtain ⟨M, h, hM, es⟩ := qa_iastore (jn := (m3 4 1).toNatClampNeg) (q := 40) (qa_e rfl h) rfl hM es rfl
    rw [← em4] at es
    replace h := qa_aload (n := 0) (q := 41) (qa_e rfl h) rfl g0
    replace h := qa_dupa (q := 42) (qa_e rfl h) rfl
    replace h := qa_gi (j := 1) (q := 45) (qa_e rfl h) rfl hM es rfl (by decide)
    replace h := qa_push (z := (1 : Int32)) (q := 46) (qa_e rfl h) rfl (by decide)
    replace h := qa_iadd (q := 47) (qa_e rfl h) rfl
    obtain ⟨m5, em5⟩ : ∃ x, x = qa_u m4 4 1 ((m4 4 1) + (1 : Int32)) := ⟨_, rfl⟩
    obtain ⟨M, h, hM, es⟩ := qa_pf (j := 1) (q := 50) (qa_e rfl h) rfl hM es rfl (by decide)
    rw [← em5] at es
    have er := qa_rv (qa_e rfl h)
    subst er
    have e0 : ma_24_4 a1 a2 a3 σ = m5 := by exact Eq.trans (if_pos c1) (Eq.trans (qa_ie em2) (Eq.trans (qa_ie em3) (Eq.trans (qa_ie em4) (Eq.trans (qa_ie em5) (rfl)))))
    rw [e0]
    exact ⟨rfl, hM, es⟩
  · replace h := qa_iff (q := 9) (qa_e rfl h) rfl (qa_F_lt c1)
    have er := qa_rv (qa_e rfl h)
    subst er
    have e0 : ma_24_4 a1 a2 a3 σ = σ := by exact Eq.trans (if_neg c1) (rfl)
    rw [e0]
    exact ⟨rfl, hM, es⟩
/-- BuriedBySevens, joins, (III)I -/
noncomputable def ma_35_3 (N : Nat) (a1 : Int32) (a2 : Int32) (a3 : Int32) (σ : qa_S) : Int32 × qa_S :=
  if a1 < (1 : Int32) then
    qa_in ((ma_9_3 (-4 : Int32) σ)) fun r2 =>
    (r2.1, r2.2)
  else
    if a2 < (0 : Int32) then
      qa_in ((ma_9_3 (-4 : Int32) σ)) fun r4 =>
      (r4.1, r4.2)
    else
      if a3 < (0 : Int32) then
        qa_in ((ma_9_3 (-4 : Int32) σ)) fun r6 =>
        (r6.1, r6.2)
      else
        if (15 : Int32) < a1 then
          qa_in ((ma_9_3 (-6 : Int32) σ)) fun r8 =>
          (r8.1, r8.2)
        else
          if (9 : Int32) < a2 then
            qa_in ((ma_9_3 (-6 : Int32) σ)) fun r10 =>
            (r10.1, r10.2)
          else
            if (9 : Int32) < a3 then
              qa_in ((ma_9_3 (-6 : Int32) σ)) fun r12 =>
              (r12.1, r12.2)
            else
              if (σ 4 1) < (6 : Int32) then
                qa_in ((ma_24_4 a1 a2 a3 σ)) fun m14 =>
                qa_in ((ma_27_3 N m14)) fun m15 =>
                (((m15 4 1) - (1 : Int32)), m15)
              else
                qa_in ((ma_9_3 (-6 : Int32) σ)) fun r16 =>
                (r16.1, r16.2)
theorem mb_35_3 {f N : Nat} (hN : f ≤ N) {M : q4_M} {r : Option Value × q4_M} {σ : qa_S} {a1 : Int32} {a2 : Int32} {a3 : Int32} (hM : qa_O M) (es : qa_s M = σ) (h : q4_run f 35 0 (lv_args 0 [.ref 3, .int (a1), .int (a2), .int (a3)]) [] M 0 0 = some r) : r.1 = some (.int ((ma_35_3 N a1 a2 a3 σ).1)) ∧ qa_O r.2 ∧ qa_s r.2 = (ma_35_3 N a1 a2 a3 σ).2 := by
  obtain ⟨lv, el⟩ : ∃ l, l = lv_args 0 [.ref 3, .int (a1), .int (a2), .int (a3)] := ⟨_, rfl⟩
  have g0 : q4_get lv 0 = some (.ref 3) := by rw [el]; rfl
  have g1 : q4_get lv 1 = some (.int (a1)) := by rw [el]; rfl
  have g2 : q4_get lv 2 = some (.int (a2)) := by rw [el]; rfl
  have g3 : q4_get lv 3 = some (.int (a3)) := by rw [el]; rfl
  rw [← el] at h
  clear el
  replace h := qa_iload (n := 1) (q := 1) (qa_e rfl h) rfl g1
  replace h := qa_push (z := (1 : Int32)) (q := 2) (qa_e rfl h) rfl (by decide)
  by_cases c1 : a1 < (1 : Int32)
  · replace h := qa_ift (q := 13) (qa_e rfl h) rfl (qa_T_lt c1)
    replace h := qa_aload (n := 0) (q := 14) (qa_e rfl h) rfl g0
    replace h := qa_push (z := (-4 : Int32)) (q := 16) (qa_e rfl h) rfl (by decide)
    obtain ⟨r2, er2⟩ : ∃ x, x = (ma_9_3 (-4 : Int32) σ) := ⟨_, rfl⟩
    obtain ⟨M, h, hM, es⟩ := qa_c1 (y := 9) (as := [.ref 3, .int ((-4 : Int32))]) (rest := []) (i := .invokevirtual 9) (q := 19) (qa_e rfl h) (Or.inl rfl) rfl rfl (by decide) rfl (fun r hc => mb_9_3 hM es hc)
    rw [← er2] at h es
    have er := qa_ri (qa_e rfl h)
    subst er
    have e0 : ma_35_3 N a1 a2 a3 σ = (r2.1, r2.2) := by exact Eq.trans (if_pos c1) (Eq.trans (qa_ie er2) (rfl))
    rw [e0]
    exact ⟨rfl, hM, es⟩
  · replace h := qa_iff (q := 5) (qa_e rfl h) rfl (qa_F_lt c1)
    replace h := qa_iload (n := 2) (q := 6) (qa_e rfl h) rfl g2
    by_cases c3 : a2 < (0 : Int32)
    · replace h := qa_ict (q := 13) (qa_e rfl h) rfl (qa_T_lt c3)
      replace h := qa_aload (n := 0) (q := 14) (qa_e rfl h) rfl g0
      replace h := qa_push (z := (-4 : Int32)) (q := 16) (qa_e rfl h) rfl (by decide)
      obtain ⟨r4, er4⟩ : ∃ x, x = (ma_9_3 (-4 : Int32) σ) := ⟨_, rfl⟩
      obtain ⟨M, h, hM, es⟩ := qa_c1 (y := 9) (as := [.ref 3, .int ((-4 : Int32))]) (rest := []) (i := .invokevirtual 9) (q := 19) (qa_e rfl h) (Or.inl rfl) rfl rfl (by decide) rfl (fun r hc => mb_9_3 hM es hc)
      rw [← er4] at h es
      have er := qa_ri (qa_e rfl h)
      subst er
      have e0 : ma_35_3 N a1 a2 a3 σ = (r4.1, r4.2) := by exact Eq.trans (if_neg c1) (Eq.trans (if_pos c3) (Eq.trans (qa_ie er4) (rfl)))
      rw [e0]
      exact ⟨rfl, hM, es⟩
    · replace h := qa_icf (q := 9) (qa_e rfl h) rfl (qa_F_lt c3)
      replace h := qa_iload (n := 3) (q := 10) (qa_e rfl h) rfl g3
      by_cases c5 : a3 < (0 : Int32)
      · replace h := qa_icf (q := 13) (qa_e rfl h) rfl (qa_F_ge c5)
        replace h := qa_aload (n := 0) (q := 14) (qa_e rfl h) rfl g0
        replace h := qa_push (z := (-4 : Int32)) (q := 16) (qa_e rfl h) rfl (by decide)
        obtain ⟨r6, er6⟩ : ∃ x, x = (ma_9_3 (-4 : Int32) σ) := ⟨_, rfl⟩
        obtain ⟨M, h, hM, es⟩ := qa_c1 (y := 9) (as := [.ref 3, .int ((-4 : Int32))]) (rest := []) (i := .invokevirtual 9) (q := 19) (qa_e rfl h) (Or.inl rfl) rfl rfl (by decide) rfl (fun r hc => mb_9_3 hM es hc)
        rw [← er6] at h es
        have er := qa_ri (qa_e rfl h)
        subst er
        have e0 : ma_35_3 N a1 a2 a3 σ = (r6.1, r6.2) := by exact Eq.trans (if_neg c1) (Eq.trans (if_neg c3) (Eq.trans (if_pos c5) (Eq.trans (qa_ie er6) (rfl))))
        rw [e0]
        exact ⟨rfl, hM, es⟩
      · replace h := qa_ict (q := 20) (qa_e rfl h) rfl (qa_T_ge c5)
        replace h := qa_iload (n := 1) (q := 21) (qa_e rfl h) rfl g1
        replace h := qa_push (z := (15 : Int32)) (q := 23) (qa_e rfl h) rfl (by decide)
        by_cases c7 : (15 : Int32) < a1
        · replace h := qa_ift (q := 50) (qa_e rfl h) rfl (qa_T_gt c7)
          replace h := qa_aload (n := 0) (q := 51) (qa_e rfl h) rfl g0
          replace h := qa_push (z := (-6 : Int32)) (q := 53) (qa_e rfl h) rfl (by decide)
          obtain ⟨r8, er8⟩ : ∃ x, x = (ma_9_3 (-6 : Int32) σ) := ⟨_, rfl⟩
          obtain ⟨M, h, hM, es⟩ := qa_c1 (y := 9) (as := [.ref 3, .int ((-6 : Int32))]) (rest := []) (i := .invokevirtual 9) (q := 56) (qa_e rfl h) (Or.inl rfl) rfl rfl (by decide) rfl (fun r hc => mb_9_3 hM es hc)
          rw [← er8] at h es
          have er := qa_ri (qa_e rfl h)
          subst er
          have e0 : ma_35_3 N a1 a2 a3 σ = (r8.1, r8.2) := by exact Eq.trans (if_neg c1) (Eq.trans (if_neg c3) (Eq.trans (if_neg c5) (Eq.trans (if_pos c7) (Eq.trans (qa_ie er8) (rfl)))))
          rw [e0]
          exact ⟨rfl, hM, es⟩
        · replace h := qa_iff (q := 26) (qa_e rfl h) rfl (qa_F_gt c7)
          replace h := qa_iload (n := 2) (q := 27) (qa_e rfl h) rfl g2
          replace h := qa_push (z := (9 : Int32)) (q := 29) (qa_e rfl h) rfl (by decide)
          by_cases c9 : (9 : Int32) < a2
          · replace h := qa_ift (q := 50) (qa_e rfl h) rfl (qa_T_gt c9)
            replace h := qa_aload (n := 0) (q := 51) (qa_e rfl h) rfl g0
            replace h := qa_push (z := (-6 : Int32)) (q := 53) (qa_e rfl h) rfl (by decide)
            obtain ⟨r10, er10⟩ : ∃ x, x = (ma_9_3 (-6 : Int32) σ) := ⟨_, rfl⟩
            obtain ⟨M, h, hM, es⟩ := qa_c1 (y := 9) (as := [.ref 3, .int ((-6 : Int32))]) (rest := []) (i := .invokevirtual 9) (q := 56) (qa_e rfl h) (Or.inl rfl) rfl rfl (by decide) rfl (fun r hc => mb_9_3 hM es hc)
            rw [← er10] at h es
            have er := qa_ri (qa_e rfl h)
            subst er
            have e0 : ma_35_3 N a1 a2 a3 σ = (r10.1, r10.2) := by exact Eq.trans (if_neg c1) (Eq.trans (if_neg c3) (Eq.trans (if_neg c5) (Eq.trans (if_neg c7) (Eq.trans (if_pos c9) (Eq.trans (qa_ie er10) (rfl))))))
            rw [e0]
            exact ⟨rfl, hM, es⟩
          · replace h := qa_iff (q := 32) (qa_e rfl h) rfl (qa_F_gt c9)
            replace h := qa_iload (n := 3) (q := 33) (qa_e rfl h) rfl g3
            replace h := qa_push (z := (9 : Int32)) (q := 35) (qa_e rfl h) rfl (by decide)
            by_cases c11 : (9 : Int32) < a3
            · replace h := qa_ift (q := 50) (qa_e rfl h) rfl (qa_T_gt c11)
              replace h := qa_aload (n := 0) (q := 51) (qa_e rfl h) rfl g0
              replace h := qa_push (z := (-6 : Int32)) (q := 53) (qa_e rfl h) rfl (by decide)
              obtain ⟨r12, er12⟩ : ∃ x, x = (ma_9_3 (-6 : Int32) σ) := ⟨_, rfl⟩
              obtain ⟨M, h, hM, es⟩ := qa_c1 (y := 9) (as := [.ref 3, .int ((-6 : Int32))]) (rest := []) (i := .invokevirtual 9) (q := 56) (qa_e rfl h) (Or.inl rfl) rfl rfl (by decide) rfl (fun r hc => mb_9_3 hM es hc)
              rw [← er12] at h es
              have er := qa_ri (qa_e rfl h)
              subst er
              have e0 : ma_35_3 N a1 a2 a3 σ = (r12.1, r12.2) := by exact Eq.trans (if_neg c1) (Eq.trans (if_neg c3) (Eq.trans (if_neg c5) (Eq.trans (if_neg c7) (Eq.trans (if_neg c9) (Eq.trans (if_pos c11) (Eq.trans (qa_ie er12) (rfl)))))))
              rw [e0]
              exact ⟨rfl, hM, es⟩
            · replace h := qa_iff (q := 38) (qa_e rfl h) rfl (qa_F_gt c11)
              replace h := qa_aload (n := 0) (q := 39) (qa_e rfl h) rfl g0
              replace h := qa_gr (b := 4) (j := 0) (q := 42) (qa_e rfl h) rfl hM rfl (by decide)
              replace h := qa_gi (j := 1) (q := 45) (qa_e rfl h) rfl hM es rfl (by decide)
              replace h := qa_push (z := (6 : Int32)) (q := 47) (qa_e rfl h) rfl (by decide)
              by_cases c13 : (σ 4 1) < (6 : Int32)
              · replace h := qa_ift (q := 57) (qa_e rfl h) rfl (qa_T_lt c13)
                replace h := qa_aload (n := 0) (q := 58) (qa_e rfl h) rfl g0
                replace h := qa_gr (b := 4) (j := 0) (q := 61) (qa_e rfl h) rfl hM rfl (by decide)
                replace h := qa_iload (n := 1) (q := 62) (qa_e rfl h) rfl g1
                replace h := qa_iload (n := 2) (q := 63) (qa_e rfl h) rfl g2
                replace h := qa_iload (n := 3) (q := 64) (qa_e rfl h) rfl g3
                obtain ⟨m14, em14⟩ : ∃ x, x = (ma_24_4 a1 a2 a3 σ) := ⟨_, rfl⟩
                obtain ⟨M, h, hM, es⟩ := qa_c0 (y := 24) (as := [.ref 4, .int (a1), .int (a2), .int (a3)]) (rest := []) (i := .invokevirtual 24) (q := 67) (qa_e rfl h) (Or.inl rfl) rfl rfl (by decide) rfl (fun r hc => mb_24_4 hM es hc)
                rw [← em14] at es
                replace h := qa_aload (n := 0) (q := 68) (qa_e rfl h) rfl g0
                obtain ⟨m15, em15⟩ : ∃ x, x = (ma_27_3 N m14) := ⟨_, rfl⟩
                obtain ⟨M, h, hM, es⟩ := qa_c0 (y := 27) (as := [.ref 3]) (rest := []) (i := .invokevirtual 27) (q := 71) (qa_e rfl h) (Or.inl rfl) rfl rfl (by decide) rfl (fun r hc => mb_27_3 hN hM es hc)
                rw [← em15] at es
                replace h := qa_aload (n := 0) (q := 72) (qa_e rfl h) rfl g0
                replace h := qa_gr (b := 4) (j := 0) (q := 75) (qa_e rfl h) rfl hM rfl (by decide)
                replace h := qa_gi (j := 1) (q := 78) (qa_e rfl h) rfl hM es rfl (by decide)
                replace h := qa_push (z := (1 : Int32)) (q := 79) (qa_e rfl h) rfl (by decide)
                replace h := qa_isub (q := 80) (qa_e rfl h) rfl
                have er := qa_ri (qa_e rfl h)
                subst er
                have e0 : ma_35_3 N a1 a2 a3 σ = (((m15 4 1) - (1 : Int32)), m15) := by exact Eq.trans (if_neg c1) (Eq.trans (if_neg c3) (Eq.trans (if_neg c5) (Eq.trans (if_neg c7) (Eq.trans (if_neg c9) (Eq.trans (if_neg c11) (Eq.trans (if_pos c13) (Eq.trans (qa_ie em14) (Eq.trans (qa_ie em15) (rfl)))))))))
                rw [e0]
                exact ⟨rfl, hM, es⟩
              · replace h := qa_iff (q := 50) (qa_e rfl h) rfl (qa_F_lt c13)
                replace h := qa_aload (n := 0) (q := 51) (qa_e rfl h) rfl g0
                replace h := qa_push (z := (-6 : Int32)) (q := 53) (qa_e rfl h) rfl (by decide)
                obtain ⟨r16, er16⟩ : ∃ x, x = (ma_9_3 (-6 : Int32) σ) := ⟨_, rfl⟩
                obtain ⟨M, h, hM, es⟩ := qa_c1 (y := 9) (as := [.ref 3, .int ((-6 : Int32))]) (rest := []) (i := .invokevirtual 9) (q := 56) (qa_e rfl h) (Or.inl rfl) rfl rfl (by decide) rfl (fun r hc => mb_9_3 hM es hc)
                rw [← er16] at h es
                have er := qa_ri (qa_e rfl h)
                subst er
                have e0 : ma_35_3 N a1 a2 a3 σ = (r16.1, r16.2) := by exact Eq.trans (if_neg c1) (Eq.trans (if_neg c3) (Eq.trans (if_neg c5) (Eq.trans (if_neg c7) (Eq.trans (if_neg c9) (Eq.trans (if_neg c11) (Eq.trans (if_neg c13) (Eq.trans (qa_ie er16) (rfl))))))))
                rw [e0]
                exact ⟨rfl, hM, es⟩
/-- BuriedBySevens$History, dropOldest, ()V -/
noncomputable def ma_38_85 (σ : qa_S) : qa_S :=
  qa_in (qa_cp σ 86 1 86 0 7) fun m1 =>
  qa_in (qa_cp m1 87 1 87 0 7) fun m2 =>
  qa_in (qa_cp m2 88 1 88 0 7) fun m3 =>
  qa_in (qa_u m3 85 0 (7 : Int32)) fun m4 =>
  m4
theorem mb_38_85 {f : Nat} {M : q4_M} {r : Option Value × q4_M} {σ : qa_S} (hM : qa_O M) (es : qa_s M = σ) (h : q4_run f 38 0 (lv_args 0 [.ref 85]) [] M 0 0 = some r) : r.1 = none ∧ qa_O r.2 ∧ qa_s r.2 = (ma_38_85 σ) := by
  obtain ⟨lv, el⟩ : ∃ l, l = lv_args 0 [.ref 85] := ⟨_, rfl⟩
  have g0 : q4_get lv 0 = some (.ref 85) := by rw [el]; rfl
  rw [← el] at h
  clear el
  replace h := qa_aload (n := 0) (q := 1) (qa_e rfl h) rfl g0
  replace h := qa_gr (b := 86) (j := 1) (q := 4) (qa_e rfl h) rfl hM rfl (by decide)
  replace h := qa_push (z := (1 : Int32)) (q := 5) (qa_e rfl h) rfl (by decide)
  replace h := qa_aload (n := 0) (q := 6) (qa_e rfl h) rfl g0
  replace h := qa_gr (b := 86) (j := 1) (q := 9) (qa_e rfl h) rfl hM rfl (by decide)
  replace h := qa_push (z := (0 : Int32)) (q := 10) (qa_e rfl h) rfl (by decide)
  replace h := qa_push (z := (7 : Int32)) (q := 12) (qa_e rfl h) rfl (by decide)
  obtain ⟨m1, em1⟩ : ∃ x, x = qa_cp σ 86 1 86 0 7 := ⟨_, rfl⟩
  obtain ⟨M, h, hM, es⟩ := qa_ac (sn := 1) (dn := 0) (nn := 7) (q := 15) (qa_e rfl h) rfl hM es (by decide) (by decide) (by decide)
  rw [← em1] at es
  replace h := qa_aload (n := 0) (q := 16) (qa_e rfl h) rfl g0
  replace h := qa_gr (b := 87) (j := 2) (q := 19) (qa_e rfl h) rfl hM rfl (by decide)
  replace h := qa_push (z := (1 : Int32)) (q := 20) (qa_e rfl h) rfl (by decide)
  replace h := qa_aload (n := 0) (q := 21) (qa_e rfl h) rfl g0
  replace h := qa_gr (b := 87) (j := 2) (q := 24) (qa_e rfl h) rfl hM rfl (by decide)
  replace h := qa_push (z := (0 : Int32)) (q := 25) (qa_e rfl h) rfl (by decide)
  replace h := qa_push (z := (7 : Int32)) (q := 27) (qa_e rfl h) rfl (by decide)
  obtain ⟨m2, em2⟩ : ∃ x, x = qa_cp m1 87 1 87 0 7 := ⟨_, rfl⟩
  obtain ⟨M, h, hM, es⟩ := qa_ac (sn := 1) (dn := 0) (nn := 7) (q := 30) (qa_e rfl h) rfl hM es (by decide) (by decide) (by decide)
  rw [← em2] at es
  replace h := qa_aload (n := 0) (q := 31) (qa_e rfl h) rfl g0
  replace h := qa_gr (b := 88) (j := 3) (q := 34) (qa_e rfl h) rfl hM rfl (by decide)
  replace h := qa_push (z := (1 : Int32)) (q := 35) (qa_e rfl h) rfl (by decide)
  replace h := qa_aload (n := 0) (q := 36) (qa_e rfl h) rfl g0
  replace h := qa_gr (b := 88) (j := 3) (q := 39) (qa_e rfl h) rfl hM rfl (by decide)
  replace h := qa_push (z := (0 : Int32)) (q := 40) (qa_e rfl h) rfl (by decide)
  replace h := qa_push (z := (7 : Int32)) (q := 42) (qa_e rfl h) rfl (by decide)
  obtain ⟨m3, em3⟩ : ∃ x, x = qa_cp m2 88 1 88 0 7 := ⟨_, rfl⟩
  obtain ⟨M, h, hM, es⟩ := qa_ac (sn := 1) (dn := 0) (nn := 7) (q := 45) (qa_e rfl h) rfl hM es (by decide) (by decide) (by decide)
  rw [← em3] at es
  replace h := qa_aload (n := 0) (q := 46) (qa_e rfl h) rfl g0
  replace h := qa_push (z := (7 : Int32)) (q := 48) (qa_e rfl h) rfl (by decide)
  obtain ⟨m4, em4⟩ : ∃ x, x = qa_u m3 85 0 (7 : Int32) := ⟨_, rfl⟩
  obtain ⟨M, h, hM, es⟩ := qa_pf (j := 0) (q := 51) (qa_e rfl h) rfl hM es rfl (by decide)
  rw [← em4] at es
  have er := qa_rv (qa_e rfl h)
  subst er
  have e0 : ma_38_85 σ = m4 := by exact Eq.trans (qa_ie em1) (Eq.trans (qa_ie em2) (Eq.trans (qa_ie em3) (Eq.trans (qa_ie em4) (rfl))))
  rw [e0]
  exact ⟨rfl, hM, es⟩
/-- BuriedBySevens$History, keep, (III)V -/
noncomputable def ma_37_85 (a1 : Int32) (a2 : Int32) (a3 : Int32) (σ : qa_S) : qa_S :=
  qa_in ((ma_38_85 σ)) fun m2 =>
  qa_in ((if (σ 85 0) < (8 : Int32) then σ else m2)) fun m3 =>
  qa_in (qa_u m3 86 (m3 85 0).toNatClampNeg a1) fun m4 =>
  qa_in (qa_u m4 87 (m4 85 0).toNatClampNeg a2) fun m5 =>
  qa_in (qa_u m5 88 (m5 85 0).toNatClampNeg a3) fun m6 =>
  qa_in (qa_u m6 85 0 ((m6 85 0) + (1 : Int32))) fun m7 =>
  m7
theorem mb_37_85 {f : Nat} {M : q4_M} {r : Option Value × q4_M} {σ : qa_S} {a1 : Int32} {a2 : Int32} {a3 : Int32} (hM : qa_O M) (es : qa_s M = σ) (h : q4_run f 37 0 (lv_args 0 [.ref 85, .int (a1), .int (a2), .int (a3)]) [] M 0 0 = some r) : r.1 = none ∧ qa_O r.2 ∧ qa_s r.2 = (ma_37_85 a1 a2 a3 σ) := by
  obtain ⟨lv, el⟩ : ∃ l, l = lv_args 0 [.ref 85, .int (a1), .int (a2), .int (a3)] := ⟨_, rfl⟩
  have g0 : q4_get lv 0 = some (.ref 85) := by rw [el]; rfl
  have g1 : q4_get lv 1 = some (.int (a1)) := by rw [el]; rfl
  have g2 : q4_get lv 2 = some (.int (a2)) := by rw [el]; rfl
  have g3 : q4_get lv 3 = some (.int (a3)) := by rw [el]; rfl
  rw [← el] at h
  clear el
  replace h := qa_aload (n := 0) (q := 1) (qa_e rfl h) rfl g0
  replace h := qa_gi (j := 0) (q := 4) (qa_e rfl h) rfl hM es rfl (by decide)
  replace h := qa_push (z := (8 : Int32)) (q := 6) (qa_e rfl h) rfl (by decide)
  obtain ⟨m2, em2⟩ : ∃ x, x = (ma_38_85 σ) := ⟨_, rfl⟩
  obtain ⟨m3, em3⟩ : ∃ x, x = (if (σ 85 0) < (8 : Int32) then σ else m2) := ⟨_, rfl⟩
  obtain ⟨lv, M, h, hM, es, g0, g1, g2, g3⟩ : ∃ lv M, q4_run f 37 13 lv [] M 0 0 = some r ∧ qa_O M ∧ qa_s M = m3 ∧ q4_get lv 0 = some (.ref 85) ∧ q4_get lv 1 = some (.int (a1)) ∧ q4_get lv 2 = some (.int (a2)) ∧ q4_get lv 3 = some (.int (a3)) := by
    by_cases c1 : (σ 85 0) < (8 : Int32)
    · replace h := qa_ift (q := 13) (qa_e rfl h) rfl (qa_T_lt c1)
      exact ⟨lv, M, h, hM, ((qa_ms1 c1 es).trans em3.symm), g0, g1, g2, g3⟩
    · replace h := qa_iff (q := 9) (qa_e rfl h) rfl (qa_F_lt c1)
      replace h := qa_aload (n := 0) (q := 10) (qa_e rfl h) rfl g0
      obtain ⟨M, h, hM, es⟩ := qa_c0 (y := 38) (as := [.ref 85]) (rest := []) (i := .invokevirtual 38) (q := 13) (qa_e rfl h) (Or.inl rfl) rfl rfl (by decide) rfl (fun r hc => mb_38_85 hM es hc)
      rw [← em2] at es
      exact ⟨lv, M, h, hM, ((qa_ms0 c1 es).trans em3.symm), g0, g1, g2, g3⟩
  replace h := qa_aload (n := 0) (q := 14) (qa_e rfl h) rfl g0
  replace h := qa_gr (b := 86) (j := 1) (q := 17) (qa_e rfl h) rfl hM rfl (by decide)
  replace h := qa_aload (n := 0) (q := 18) (qa_e rfl h) rfl g0
  replace h := qa_gi (j := 0) (q := 21) (qa_e rfl h) rfl hM es rfl (by decide)
  replace h := qa_iload (n := 1) (q := 22) (qa_e rfl h) rfl g1
  obtain ⟨m4, em4⟩ : ∃ x, x = qa_u m3 86 (m3 85 0).toNatClampNeg a1 := ⟨_, rfl⟩
  obtain ⟨M, h, hM, es⟩ := qa_iastore (jn := (m3 85 0).toNatClampNeg) (q := 23) (qa_e rfl h) rfl hM es rfl
  rw [← em4] at es
  replace h := qa_aload (n := 0) (q := 24) (qa_e rfl h) rfl g0
  replace h := qa_gr (b := 87) (j := 2) (q := 27) (qa_e rfl h) rfl hM rfl (by decide)
  replace h := qa_aload (n := 0) (q := 28) (qa_e rfl h) rfl g0
  replace h := qa_gi (j := 0) (q := 31) (qa_e rfl h) rfl hM es rfl (by decide)
  replace h := qa_iload (n := 2) (q := 32) (qa_e rfl h) rfl g2
  obtain ⟨m5, em5⟩ : ∃ x, x = qa_u m4 87 (m4 85 0).toNatClampNeg a2 := ⟨_, rfl⟩
  obtain ⟨M, h, hM, es⟩ := qa_iastore (jn := (m4 85 0).toNatClampNeg) (q := 33) (qa_e rfl h) rfl hM es rfl
  rw [← em5] at es
  replace h := qa_aload (n := 0) (q := 34) (qa_e rfl h) rfl g0
  replace h := qa_gr (b := 88) (j := 3) (q := 37) (qa_e rfl h) rfl hM rfl (by decide)
  replace h := qa_aload (n := 0) (q := 38) (qa_e rfl h) rfl g0
  replace h := qa_gi (j := 0) (q := 41) (qa_e rfl h) rfl hM es rfl (by decide)
  replace h := qa_iload (n := 3) (q := 42) (qa_e rfl h) rfl g3
  obtain ⟨m6, em6⟩ : ∃ x, x = qa_u m5 88 (m5 85 0).toNatClampNeg a3 := ⟨_, rfl⟩
  obtain ⟨M, h, hM, es⟩ := qa_iastore (jn := (m5 85 0).toNatClampNeg) (q := 43) (qa_e rfl h) rfl hM es rfl
  rw [← em6] at es
  replace h := qa_aload (n := 0) (q := 44) (qa_e rfl h) rfl g0
  replace h := qa_dupa (q := 45) (qa_e rfl h) rfl
  replace h := qa_gi (j := 0) (q := 48) (qa_e rfl h) rfl hM es rfl (by decide)
  replace h := qa_push (z := (1 : Int32)) (q := 49) (qa_e rfl h) rfl (by decide)
  replace h := qa_iadd (q := 50) (qa_e rfl h) rfl
  obtain ⟨m7, em7⟩ : ∃ x, x = qa_u m6 85 0 ((m6 85 0) + (1 : Int32)) := ⟨_, rfl⟩
  obtain ⟨M, h, hM, es⟩ := qa_pf (j := 0) (q := 53) (qa_e rfl h) rfl hM es rfl (by decide)
  rw [← em7] at es
  have er := qa_rv (qa_e rfl h)
  subst er
  have e0 : ma_37_85 a1 a2 a3 σ = m7 := by exact Eq.trans (qa_ie em2) (Eq.trans (qa_ie em3) (Eq.trans (qa_ie em4) (Eq.trans (qa_ie em5) (Eq.trans (qa_ie em6) (Eq.trans (qa_ie em7) (rfl))))))
  rw [e0]
  exact ⟨rfl, hM, es⟩
/-- BuriedBySevens, share, (II)I -/
noncomputable def ma_36_3 (a1 : Int32) (a2 : Int32) (σ : qa_S) : Int32 × qa_S :=
  if (ma_22_4 a1 σ) = (0 : Int32) then
    qa_in ((ma_9_3 (-1 : Int32) σ)) fun r2 =>
    (r2.1, r2.2)
  else
    if a2 < (0 : Int32) then
      qa_in ((ma_9_3 (-4 : Int32) σ)) fun r4 =>
      (r4.1, r4.2)
    else
      if (9 : Int32) < a2 then
        qa_in ((ma_9_3 (-6 : Int32) σ)) fun r6 =>
        (r6.1, r6.2)
      else
        qa_in ((ma_37_85 a1 (-1 : Int32) (σ 7 a1.toNatClampNeg) σ)) fun m7 =>
        qa_in (qa_u m7 7 a1.toNatClampNeg a2) fun m8 =>
        ((σ 7 a1.toNatClampNeg), m8)
theorem mb_36_3 {f : Nat} {M : q4_M} {r : Option Value × q4_M} {σ : qa_S} {a1 : Int32} {a2 : Int32} (hM : qa_O M) (es : qa_s M = σ) (h : q4_run f 36 0 (lv_args 0 [.ref 3, .int (a1), .int (a2)]) [] M 0 0 = some r) : r.1 = some (.int ((ma_36_3 a1 a2 σ).1)) ∧ qa_O r.2 ∧ qa_s r.2 = (ma_36_3 a1 a2 σ).2 := by
  obtain ⟨lv, el⟩ : ∃ l, l = lv_args 0 [.ref 3, .int (a1), .int (a2)] := ⟨_, rfl⟩
  have g0 : q4_get lv 0 = some (.ref 3) := by rw [el]; rfl
  have g1 : q4_get lv 1 = some (.int (a1)) := by rw [el]; rfl
  have g2 : q4_get lv 2 = some (.int (a2)) := by rw [el]; rfl
  rw [← el] at h
  clear el
  replace h := qa_aload (n := 0) (q := 1) (qa_e rfl h) rfl g0
  replace h := qa_gr (b := 4) (j := 0) (q := 4) (qa_e rfl h) rfl hM rfl (by decide)
  replace h := qa_iload (n := 1) (q := 5) (qa_e rfl h) rfl g1
  obtain ⟨M, h, hM, es⟩ := qa_c1 (y := 22) (as := [.ref 4, .int (a1)]) (rest := []) (i := .invokevirtual 22) (q := 8) (qa_e rfl h) (Or.inl rfl) rfl rfl (by decide) rfl (fun r hc => mb_22_4 hM es hc)
  by_cases c1 : (ma_22_4 a1 σ) = (0 : Int32)
  · replace h := qa_icf (q := 11) (qa_e rfl h) rfl (qa_F_ne c1)
    replace h := qa_aload (n := 0) (q := 12) (qa_e rfl h) rfl g0
    replace h := qa_push (z := (-1 : Int32)) (q := 13) (qa_e rfl h) rfl (by decide)
    obtain ⟨r2, er2⟩ : ∃ x, x = (ma_9_3 (-1 : Int32) σ) := ⟨_, rfl⟩
    obtain ⟨M, h, hM, es⟩ := qa_c1 (y := 9) (as := [.ref 3, .int ((-1 : Int32))]) (rest := []) (i := .invokevirtual 9) (q := 16) (qa_e rfl h) (Or.inl rfl) rfl rfl (by decide) rfl (fun r hc => mb_9_3 hM es hc)
    rw [← er2] at h es
    have er := qa_ri (qa_e rfl h)
    subst er
    have e0 : ma_36_3 a1 a2 σ = (r2.1, r2.2) := by exact Eq.trans (if_pos c1) (Eq.trans (qa_ie er2) (rfl))
    rw [e0]
    exact ⟨rfl, hM, es⟩
  · replace h := qa_ict (q := 17) (qa_e rfl h) rfl (qa_T_ne c1)
    replace h := qa_iload (n := 2) (q := 18) (qa_e rfl h) rfl g2
    by_cases c3 : a2 < (0 : Int32)
    · replace h := qa_icf (q := 21) (qa_e rfl h) rfl (qa_F_ge c3)
      replace h := qa_aload (n := 0) (q := 22) (qa_e rfl h) rfl g0
      replace h := qa_push (z := (-4 : Int32)) (q := 24) (qa_e rfl h) rfl (by decide)
      obtain ⟨r4, er4⟩ : ∃ x, x = (ma_9_3 (-4 : Int32) σ) := ⟨_, rfl⟩
      obtain ⟨M, h, hM, es⟩ := qa_c1 (y := 9) (as := [.ref 3, .int ((-4 : Int32))]) (rest := []) (i := .invokevirtual 9) (q := 27) (qa_e rfl h) (Or.inl rfl) rfl rfl (by decide) rfl (fun r hc => mb_9_3 hM es hc)
      rw [← er4] at h es
      have er := qa_ri (qa_e rfl h)
      subst er
      have e0 : ma_36_3 a1 a2 σ = (r4.1, r4.2) := by exact Eq.trans (if_neg c1) (Eq.trans (if_pos c3) (Eq.trans (qa_ie er4) (rfl)))
      rw [e0]
      exact ⟨rfl, hM, es⟩
    · replace h := qa_ict (q := 28) (qa_e rfl h) rfl (qa_T_ge c3)
      replace h := qa_iload (n := 2) (q := 29) (qa_e rfl h) rfl g2
      replace h := qa_push (z := (9 : Int32)) (q := 31) (qa_e rfl h) rfl (by decide)
      by_cases c5 : (9 : Int32) < a2
      · replace h := qa_iff (q := 34) (qa_e rfl h) rfl (qa_F_le c5)
        replace h := qa_aload (n := 0) (q := 35) (qa_e rfl h) rfl g0
        replace h := qa_push (z := (-6 : Int32)) (q := 37) (qa_e rfl h) rfl (by decide)
        obtain ⟨r6, er6⟩ : ∃ x, x = (ma_9_3 (-6 : Int32) σ) := ⟨_, rfl⟩
        obtain ⟨M, h, hM, es⟩ := qa_c1 (y := 9) (as := [.ref 3, .int ((-6 : Int32))]) (rest := []) (i := .invokevirtual 9) (q := 40) (qa_e rfl h) (Or.inl rfl) rfl rfl (by decide) rfl (fun r hc => mb_9_3 hM es hc)
        rw [← er6] at h es
        have er := qa_ri (qa_e rfl h)
        subst er
        have e0 : ma_36_3 a1 a2 σ = (r6.1, r6.2) := by exact Eq.trans (if_neg c1) (Eq.trans (if_neg c3) (Eq.trans (if_pos c5) (Eq.trans (qa_ie er6) (rfl))))
        rw [e0]
        exact ⟨rfl, hM, es⟩
      · replace h := qa_ift (q := 41) (qa_e rfl h) rfl (qa_T_le c5)
        replace h := qa_aload (n := 0) (q := 42) (qa_e rfl h) rfl g0
        replace h := qa_gr (b := 4) (j := 0) (q := 45) (qa_e rfl h) rfl hM rfl (by decide)
        replace h := qa_gr (b := 7) (j := 4) (q := 48) (qa_e rfl h) rfl hM rfl (by decide)
        replace h := qa_iload (n := 1) (q := 49) (qa_e rfl h) rfl g1
        replace h := qa_iaload (jn := a1.toNatClampNeg) (q := 50) (qa_e rfl h) rfl hM es rfl
        obtain ⟨lv, h, g, T⟩ := qa_istore (n := 3) (q := 51) (qa_e rfl h) rfl
        replace g0 := T _ _ g0 (by decide) (Or.inr rfl)
        replace g1 := T _ _ g1 (by decide) (Or.inr rfl)
        replace g2 := T _ _ g2 (by decide) (Or.inr rfl)
        have g3 := g
        clear g T
        replace h := qa_aload (n := 0) (q := 52) (qa_e rfl h) rfl g0
        replace h := qa_gr (b := 85) (j := 6) (q := 55) (qa_e rfl h) rfl hM rfl (by decide)
        replace h := qa_iload (n := 1) (q := 56) (qa_e rfl h) rfl g1
        replace h := qa_push (z := (-1 : Int32)) (q := 57) (qa_e rfl h) rfl (by decide)
        replace h := qa_iload (n := 3) (q := 58) (qa_e rfl h) rfl g3
        obtain ⟨m7, em7⟩ : ∃ x, x = (ma_37_85 a1 (-1 : Int32) (σ 7 a1.toNatClampNeg) σ) := ⟨_, rfl⟩
        obtain ⟨M, h, hM, es⟩ := qa_c0 (y := 37) (as := [.ref 85, .int (a1), .int ((-1 : Int32)), .int ((σ 7 a1.toNatClampNeg))]) (rest := []) (i := .invokevirtual 37) (q := 61) (qa_e rfl h) (Or.inl rfl) rfl rfl (by decide) rfl (fun r hc => mb_37_85 hM es hc)
        rw [← em7] at es
        replace h := qa_aload (n := 0) (q := 62) (qa_e rfl h) rfl g0
        replace h := qa_gr (b := 4) (j := 0) (q := 65) (qa_e rfl h) rfl hM rfl (by decide)
        replace h := qa_gr (b := 7) (j := 4) (q := 68) (qa_e rfl h) rfl hM rfl (by decide)
        replace h := qa_iload (n := 1) (q := 69) (qa_e rfl h) rfl g1
        replace h := qa_iload (n := 2) (q := 70) (qa_e rfl h) rfl g2
        obtain ⟨m8, em8⟩ : ∃ x, x = qa_u m7 7 a1.toNatClampNeg a2 := ⟨_, rfl⟩
        obtain ⟨M, h, hM, es⟩ := qa_iastore (jn := a1.toNatClampNeg) (q := 71) (qa_e rfl h) rfl hM es rfl
        rw [← em8] at es
        replace h := qa_iload (n := 3) (q := 72) (qa_e rfl h) rfl g3
        have er := qa_ri (qa_e rfl h)
        subst er
        have e0 : ma_36_3 a1 a2 σ = ((σ 7 a1.toNatClampNeg), m8) := by exact Eq.trans (if_neg c1) (Eq.trans (if_neg c3) (Eq.trans (if_neg c5) (Eq.trans (qa_ie em7) (Eq.trans (qa_ie em8) (rfl)))))
        rw [e0]
        exact ⟨rfl, hM, es⟩
/-- BuriedBySevens, mark, (III)I -/
noncomputable def ma_39_3 (N : Nat) (a1 : Int32) (a2 : Int32) (a3 : Int32) (σ : qa_S) : Int32 × qa_S :=
  if (ma_22_4 a1 σ) = (0 : Int32) then
    qa_in ((ma_9_3 (-1 : Int32) σ)) fun r2 =>
    (r2.1, r2.2)
  else
    if (ma_26 a2) = (0 : Int32) then
      qa_in ((ma_9_3 (-1 : Int32) σ)) fun r4 =>
      (r4.1, r4.2)
    else
      if a3 < (0 : Int32) then
        qa_in ((ma_9_3 (-4 : Int32) σ)) fun r6 =>
        (r6.1, r6.2)
      else
        if (9 : Int32) < a3 then
          qa_in ((ma_9_3 (-6 : Int32) σ)) fun r8 =>
          (r8.1, r8.2)
        else
          qa_in ((ma_37_85 a1 a2 (σ (9 + a1.toNatClampNeg) a2.toNatClampNeg) σ)) fun m9 =>
          qa_in (qa_u m9 (9 + a1.toNatClampNeg) a2.toNatClampNeg a3) fun m10 =>
          qa_in ((ma_28_3 N m10)) fun m11 =>
          ((σ (9 + a1.toNatClampNeg) a2.toNatClampNeg), m11)
theorem mb_39_3 {f N : Nat} (hN : f ≤ N) {M : q4_M} {r : Option Value × q4_M} {σ : qa_S} {a1 : Int32} {a2 : Int32} {a3 : Int32} (hM : qa_O M) (es : qa_s M = σ) (h : q4_run f 39 0 (lv_args 0 [.ref 3, .int (a1), .int (a2), .int (a3)]) [] M 0 0 = some r) : r.1 = some (.int ((ma_39_3 N a1 a2 a3 σ).1)) ∧ qa_O r.2 ∧ qa_s r.2 = (ma_39_3 N a1 a2 a3 σ).2 := by
  obtain ⟨lv, el⟩ : ∃ l, l = lv_args 0 [.ref 3, .int (a1), .int (a2), .int (a3)] := ⟨_, rfl⟩
  have g0 : q4_get lv 0 = some (.ref 3) := by rw [el]; rfl
  have g1 : q4_get lv 1 = some (.int (a1)) := by rw [el]; rfl
  have g2 : q4_get lv 2 = some (.int (a2)) := by rw [el]; rfl
  have g3 : q4_get lv 3 = some (.int (a3)) := by rw [el]; rfl
  rw [← el] at h
  clear el
  replace h := qa_aload (n := 0) (q := 1) (qa_e rfl h) rfl g0
  replace h := qa_gr (b := 4) (j := 0) (q := 4) (qa_e rfl h) rfl hM rfl (by decide)
  replace h := qa_iload (n := 1) (q := 5) (qa_e rfl h) rfl g1
  obtain ⟨M, h, hM, es⟩ := qa_c1 (y := 22) (as := [.ref 4, .int (a1)]) (rest := []) (i := .invokevirtual 22) (q := 8) (qa_e rfl h) (Or.inl rfl) rfl rfl (by decide) rfl (fun r hc => mb_22_4 hM es hc)
  by_cases c1 : (ma_22_4 a1 σ) = (0 : Int32)
  · replace h := qa_ict (q := 18) (qa_e rfl h) rfl (qa_T_eq c1)
    replace h := qa_aload (n := 0) (q := 19) (qa_e rfl h) rfl g0
    replace h := qa_push (z := (-1 : Int32)) (q := 20) (qa_e rfl h) rfl (by decide)
    obtain ⟨r2, er2⟩ : ∃ x, x = (ma_9_3 (-1 : Int32) σ) := ⟨_, rfl⟩
    obtain ⟨M, h, hM, es⟩ := qa_c1 (y := 9) (as := [.ref 3, .int ((-1 : Int32))]) (rest := []) (i := .invokevirtual 9) (q := 23) (qa_e rfl h) (Or.inl rfl) rfl rfl (by decide) rfl (fun r hc => mb_9_3 hM es hc)
    rw [← er2] at h es
    have er := qa_ri (qa_e rfl h)
    subst er
    have e0 : ma_39_3 N a1 a2 a3 σ = (r2.1, r2.2) := by exact Eq.trans (if_pos c1) (Eq.trans (qa_ie er2) (rfl))
    rw [e0]
    exact ⟨rfl, hM, es⟩
  · replace h := qa_icf (q := 11) (qa_e rfl h) rfl (qa_F_eq c1)
    replace h := qa_iload (n := 2) (q := 12) (qa_e rfl h) rfl g2
    obtain ⟨M, h, hM, es⟩ := qa_c1 (y := 26) (as := [.int (a2)]) (rest := []) (i := .invokestatic 26) (q := 15) (qa_e rfl h) (Or.inr rfl) rfl rfl (by decide) rfl (fun r hc => mb_26 hM es hc)
    by_cases c3 : (ma_26 a2) = (0 : Int32)
    · replace h := qa_icf (q := 18) (qa_e rfl h) rfl (qa_F_ne c3)
      replace h := qa_aload (n := 0) (q := 19) (qa_e rfl h) rfl g0
      replace h := qa_push (z := (-1 : Int32)) (q := 20) (qa_e rfl h) rfl (by decide)
      obtain ⟨r4, er4⟩ : ∃ x, x = (ma_9_3 (-1 : Int32) σ) := ⟨_, rfl⟩
      obtain ⟨M, h, hM, es⟩ := qa_c1 (y := 9) (as := [.ref 3, .int ((-1 : Int32))]) (rest := []) (i := .invokevirtual 9) (q := 23) (qa_e rfl h) (Or.inl rfl) rfl rfl (by decide) rfl (fun r hc => mb_9_3 hM es hc)
      rw [← er4] at h es
      have er := qa_ri (qa_e rfl h)
      subst er
      have e0 : ma_39_3 N a1 a2 a3 σ = (r4.1, r4.2) := by exact Eq.trans (if_neg c1) (Eq.trans (if_pos c3) (Eq.trans (qa_ie er4) (rfl)))
      rw [e0]
      exact ⟨rfl, hM, es⟩
    · replace h := qa_ict (q := 24) (qa_e rfl h) rfl (qa_T_ne c3)
      replace h := qa_iload (n := 3) (q := 25) (qa_e rfl h) rfl g3
      by_cases c5 : a3 < (0 : Int32)
      · replace h := qa_icf (q := 28) (qa_e rfl h) rfl (qa_F_ge c5)
        replace h := qa_aload (n := 0) (q := 29) (qa_e rfl h) rfl g0
        replace h := qa_push (z := (-4 : Int32)) (q := 31) (qa_e rfl h) rfl (by decide)
        obtain ⟨r6, er6⟩ : ∃ x, x = (ma_9_3 (-4 : Int32) σ) := ⟨_, rfl⟩
        obtain ⟨M, h, hM, es⟩ := qa_c1 (y := 9) (as := [.ref 3, .int ((-4 : Int32))]) (rest := []) (i := .invokevirtual 9) (q := 34) (qa_e rfl h) (Or.inl rfl) rfl rfl (by decide) rfl (fun r hc => mb_9_3 hM es hc)
        rw [← er6] at h es
        have er := qa_ri (qa_e rfl h)
        subst er
        have e0 : ma_39_3 N a1 a2 a3 σ = (r6.1, r6.2) := by exact Eq.trans (if_neg c1) (Eq.trans (if_neg c3) (Eq.trans (if_pos c5) (Eq.trans (qa_ie er6) (rfl))))
        rw [e0]
        exact ⟨rfl, hM, es⟩
      · replace h := qa_ict (q := 35) (qa_e rfl h) rfl (qa_T_ge c5)
        replace h := qa_iload (n := 3) (q := 36) (qa_e rfl h) rfl g3
        replace h := qa_push (z := (9 : Int32)) (q := 38) (qa_e rfl h) rfl (by decide)
        by_cases c7 : (9 : Int32) < a3
        · replace h := qa_iff (q := 41) (qa_e rfl h) rfl (qa_F_le c7)
          replace h := qa_aload (n := 0) (q := 42) (qa_e rfl h) rfl g0
          replace h := qa_push (z := (-6 : Int32)) (q := 44) (qa_e rfl h) rfl (by decide)
          obtain ⟨r8, er8⟩ : ∃ x, x = (ma_9_3 (-6 : Int32) σ) := ⟨_, rfl⟩
          obtain ⟨M, h, hM, es⟩ := qa_c1 (y := 9) (as := [.ref 3, .int ((-6 : Int32))]) (rest := []) (i := .invokevirtual 9) (q := 47) (qa_e rfl h) (Or.inl rfl) rfl rfl (by decide) rfl (fun r hc => mb_9_3 hM es hc)
          rw [← er8] at h es
          have er := qa_ri (qa_e rfl h)
          subst er
          have e0 : ma_39_3 N a1 a2 a3 σ = (r8.1, r8.2) := by exact Eq.trans (if_neg c1) (Eq.trans (if_neg c3) (Eq.trans (if_neg c5) (Eq.trans (if_pos c7) (Eq.trans (qa_ie er8) (rfl)))))
          rw [e0]
          exact ⟨rfl, hM, es⟩
        · replace h := qa_ift (q := 48) (qa_e rfl h) rfl (qa_T_le c7)
          replace h := qa_aload (n := 0) (q := 49) (qa_e rfl h) rfl g0
          replace h := qa_gr (b := 4) (j := 0) (q := 52) (qa_e rfl h) rfl hM rfl (by decide)
          replace h := qa_gr (b := 8) (j := 5) (q := 55) (qa_e rfl h) rfl hM rfl (by decide)
          replace h := qa_iload (n := 1) (q := 56) (qa_e rfl h) rfl g1
          replace h := qa_aaload (b := 9) (jn := a1.toNatClampNeg) (q := 57) (qa_e rfl h) rfl hM rfl (by decide) (by decide +kernel)
          replace h := qa_iload (n := 2) (q := 58) (qa_e rfl h) rfl g2
          replace h := qa_iaload (jn := a2.toNatClampNeg) (q := 59) (qa_e rfl h) rfl hM es rfl
          obtain ⟨lv, h, g, T⟩ := qa_istore (n := 4) (q := 61) (qa_e rfl h) rfl
          replace g0 := T _ _ g0 (by decide) (Or.inr rfl)
          replace g1 := T _ _ g1 (by decide) (Or.inr rfl)
          replace g2 := T _ _ g2 (by decide) (Or.inr rfl)
          replace g3 := T _ _ g3 (by decide) (Or.inr rfl)
          have g4 := g
          clear g T
          replace h := qa_aload (n := 0) (q := 62) (qa_e rfl h) rfl g0
          replace h := qa_gr (b := 85) (j := 6) (q := 65) (qa_e rfl h) rfl hM rfl (by decide)
          replace h := qa_iload (n := 1) (q := 66) (qa_e rfl h) rfl g1
          replace h := qa_iload (n := 2) (q := 67) (qa_e rfl h) rfl g2
          replace h := qa_iload (n := 4) (q := 69) (qa_e rfl h) rfl g4
          obtain ⟨m9, em9⟩ : ∃ x, x = (ma_37_85 a1 a2 (σ (9 + a1.toNatClampNeg) a2.toNatClampNeg) σ) := ⟨_, rfl⟩
          obtain ⟨M, h, hM, es⟩ := qa_c0 (y := 37) (as := [.ref 85, .int (a1), .int (a2), .int ((σ (9 + a1.toNatClampNeg) a2.toNatClampNeg))]) (rest := []) (i := .invokevirtual 37) (q := 72) (qa_e rfl h) (Or.inl rfl) rfl rfl (by decide) rfl (fun r hc => mb_37_85 hM es hc)
          rw [← em9] at es
          replace h := qa_aload (n := 0) (q := 73) (qa_e rfl h) rfl g0
          replace h := qa_gr (b := 4) (j := 0) (q := 76) (qa_e rfl h) rfl hM rfl (by decide)
          replace h := qa_gr (b := 8) (j := 5) (q := 79) (qa_e rfl h) rfl hM rfl (by decide)
          replace h := qa_iload (n := 1) (q := 80) (qa_e rfl h) rfl g1
          replace h := qa_aaload (b := 9) (jn := a1.toNatClampNeg) (q := 81) (qa_e rfl h) rfl hM rfl (by decide) (by decide +kernel)
          replace h := qa_iload (n := 2) (q := 82) (qa_e rfl h) rfl g2
          replace h := qa_iload (n := 3) (q := 83) (qa_e rfl h) rfl g3
          obtain ⟨m10, em10⟩ : ∃ x, x = qa_u m9 (9 + a1.toNatClampNeg) a2.toNatClampNeg a3 := ⟨_, rfl⟩
          obtain ⟨M, h, hM, es⟩ := qa_iastore (jn := a2.toNatClampNeg) (q := 84) (qa_e rfl h) rfl hM es rfl
          rw [← em10] at es
          replace h := qa_aload (n := 0) (q := 85) (qa_e rfl h) rfl g0
          obtain ⟨m11, em11⟩ : ∃ x, x = (ma_28_3 N m10) := ⟨_, rfl⟩
          obtain ⟨M, h, hM, es⟩ := qa_c0 (y := 28) (as := [.ref 3]) (rest := []) (i := .invokevirtual 28) (q := 88) (qa_e rfl h) (Or.inl rfl) rfl rfl (by decide) rfl (fun r hc => mb_28_3 hN hM es hc)
          rw [← em11] at es
          replace h := qa_iload (n := 4) (q := 90) (qa_e rfl h) rfl g4
          have er := qa_ri (qa_e rfl h)
          subst er
          have e0 : ma_39_3 N a1 a2 a3 σ = ((σ (9 + a1.toNatClampNeg) a2.toNatClampNeg), m11) := by exact Eq.trans (if_neg c1) (Eq.trans (if_neg c3) (Eq.trans (if_neg c5) (Eq.trans (if_neg c7) (Eq.trans (qa_ie em9) (Eq.trans (qa_ie em10) (Eq.trans (qa_ie em11) (rfl)))))))
          rw [e0]
          exact ⟨rfl, hM, es⟩
/-- BuriedBySevens, kind, (III)I -/
noncomputable def ma_40_3 (N : Nat) (a1 : Int32) (a2 : Int32) (a3 : Int32) (σ : qa_S) : Int32 × qa_S :=
  if (ma_22_4 a1 σ) = (0 : Int32) then
    qa_in ((ma_9_3 (-1 : Int32) σ)) fun r2 =>
    (r2.1, r2.2)
  else
    if (ma_19 a2) = (0 : Int32) then
      qa_in ((ma_9_3 (-2 : Int32) σ)) fun r4 =>
      (r4.1, r4.2)
    else
      if a3 < (0 : Int32) then
        qa_in ((ma_9_3 (-4 : Int32) σ)) fun r6 =>
        (r6.1, r6.2)
      else
        if (9 : Int32) < a3 then
          qa_in ((ma_9_3 (-6 : Int32) σ)) fun r8 =>
          (r8.1, r8.2)
        else
          qa_in ((ma_37_85 a1 (4 : Int32) (((10 : Int32) * (σ 5 a1.toNatClampNeg)) + (σ 6 a1.toNatClampNeg)) σ)) fun m9 =>
          qa_in (qa_u m9 5 a1.toNatClampNeg a2) fun m10 =>
          qa_in (qa_u m10 6 a1.toNatClampNeg a3) fun m11 =>
          qa_in ((ma_28_3 N m11)) fun m12 =>
          ((((10 : Int32) * (σ 5 a1.toNatClampNeg)) + (σ 6 a1.toNatClampNeg)), m12)
theorem mb_40_3 {f N : Nat} (hN : f ≤ N) {M : q4_M} {r : Option Value × q4_M} {σ : qa_S} {a1 : Int32} {a2 : Int32} {a3 : Int32} (hM : qa_O M) (es : qa_s M = σ) (h : q4_run f 40 0 (lv_args 0 [.ref 3, .int (a1), .int (a2), .int (a3)]) [] M 0 0 = some r) : r.1 = some (.int ((ma_40_3 N a1 a2 a3 σ).1)) ∧ qa_O r.2 ∧ qa_s r.2 = (ma_40_3 N a1 a2 a3 σ).2 := by
  obtain ⟨lv, el⟩ : ∃ l, l = lv_args 0 [.ref 3, .int (a1), .int (a2), .int (a3)] := ⟨_, rfl⟩
  have g0 : q4_get lv 0 = some (.ref 3) := by rw [el]; rfl
  have g1 : q4_get lv 1 = some (.int (a1)) := by rw [el]; rfl
  have g2 : q4_get lv 2 = some (.int (a2)) := by rw [el]; rfl
  have g3 : q4_get lv 3 = some (.int (a3)) := by rw [el]; rfl
  rw [← el] at h
  clear el
  replace h := qa_aload (n := 0) (q := 1) (qa_e rfl h) rfl g0
  replace h := qa_gr (b := 4) (j := 0) (q := 4) (qa_e rfl h) rfl hM rfl (by decide)
  replace h := qa_iload (n := 1) (q := 5) (qa_e rfl h) rfl g1
  obtain ⟨M, h, hM, es⟩ := qa_c1 (y := 22) (as := [.ref 4, .int (a1)]) (rest := []) (i := .invokevirtual 22) (q := 8) (qa_e rfl h) (Or.inl rfl) rfl rfl (by decide) rfl (fun r hc => mb_22_4 hM es hc)
  by_cases c1 : (ma_22_4 a1 σ) = (0 : Int32)
  · replace h := qa_icf (q := 11) (qa_e rfl h) rfl (qa_F_ne c1)
    replace h := qa_aload (n := 0) (q := 12) (qa_e rfl h) rfl g0
    replace h := qa_push (z := (-1 : Int32)) (q := 13) (qa_e rfl h) rfl (by decide)
    obtain ⟨r2, er2⟩ : ∃ x, x = (ma_9_3 (-1 : Int32) σ) := ⟨_, rfl⟩
    obtain ⟨M, h, hM, es⟩ := qa_c1 (y := 9) (as := [.ref 3, .int ((-1 : Int32))]) (rest := []) (i := .invokevirtual 9) (q := 16) (qa_e rfl h) (Or.inl rfl) rfl rfl (by decide) rfl (fun r hc => mb_9_3 hM es hc)
    rw [← er2] at h es
    have er := qa_ri (qa_e rfl h)
    subst er
    have e0 : ma_40_3 N a1 a2 a3 σ = (r2.1, r2.2) := by exact Eq.trans (if_pos c1) (Eq.trans (qa_ie er2) (rfl))
    rw [e0]
    exact ⟨rfl, hM, es⟩
  · replace h := qa_ict (q := 17) (qa_e rfl h) rfl (qa_T_ne c1)
    replace h := qa_iload (n := 2) (q := 18) (qa_e rfl h) rfl g2
    obtain ⟨M, h, hM, es⟩ := qa_c1 (y := 19) (as := [.int (a2)]) (rest := []) (i := .invokestatic 19) (q := 21) (qa_e rfl h) (Or.inr rfl) rfl rfl (by decide) rfl (fun r hc => mb_19 hM es hc)
    by_cases c3 : (ma_19 a2) = (0 : Int32)
    · replace h := qa_icf (q := 24) (qa_e rfl h) rfl (qa_F_ne c3)
      replace h := qa_aload (n := 0) (q := 25) (qa_e rfl h) rfl g0
      replace h := qa_push (z := (-2 : Int32)) (q := 27) (qa_e rfl h) rfl (by decide)
      obtain ⟨r4, er4⟩ : ∃ x, x = (ma_9_3 (-2 : Int32) σ) := ⟨_, rfl⟩
      obtain ⟨M, h, hM, es⟩ := qa_c1 (y := 9) (as := [.ref 3, .int ((-2 : Int32))]) (rest := []) (i := .invokevirtual 9) (q := 30) (qa_e rfl h) (Or.inl rfl) rfl rfl (by decide) rfl (fun r hc => mb_9_3 hM es hc)
      rw [← er4] at h es
      have er := qa_ri (qa_e rfl h)
      subst er
      have e0 : ma_40_3 N a1 a2 a3 σ = (r4.1, r4.2) := by exact Eq.trans (if_neg c1) (Eq.trans (if_pos c3) (Eq.trans (qa_ie er4) (rfl)))
      rw [e0]
      exact ⟨rfl, hM, es⟩
    · replace h := qa_ict (q := 31) (qa_e rfl h) rfl (qa_T_ne c3)
      replace h := qa_iload (n := 3) (q := 32) (qa_e rfl h) rfl g3
      by_cases c5 : a3 < (0 : Int32)
      · replace h := qa_icf (q := 35) (qa_e rfl h) rfl (qa_F_ge c5)
        replace h := qa_aload (n := 0) (q := 36) (qa_e rfl h) rfl g0
        replace h := qa_push (z := (-4 : Int32)) (q := 38) (qa_e rfl h) rfl (by decide)
        obtain ⟨r6, er6⟩ : ∃ x, x = (ma_9_3 (-4 : Int32) σ) := ⟨_, rfl⟩
        obtain ⟨M, h, hM, es⟩ := qa_c1 (y := 9) (as := [.ref 3, .int ((-4 : Int32))]) (rest := []) (i := .invokevirtual 9) (q := 41) (qa_e rfl h) (Or.inl rfl) rfl rfl (by decide) rfl (fun r hc => mb_9_3 hM es hc)
        rw [← er6] at h es
        have er := qa_ri (qa_e rfl h)
        subst er
        have e0 : ma_40_3 N a1 a2 a3 σ = (r6.1, r6.2) := by exact Eq.trans (if_neg c1) (Eq.trans (if_neg c3) (Eq.trans (if_pos c5) (Eq.trans (qa_ie er6) (rfl))))
        rw [e0]
        exact ⟨rfl, hM, es⟩
      · replace h := qa_ict (q := 42) (qa_e rfl h) rfl (qa_T_ge c5)
        replace h := qa_iload (n := 3) (q := 43) (qa_e rfl h) rfl g3
        replace h := qa_push (z := (9 : Int32)) (q := 45) (qa_e rfl h) rfl (by decide)
        by_cases c7 : (9 : Int32) < a3
        · replace h := qa_iff (q := 48) (qa_e rfl h) rfl (qa_F_le c7)
          replace h := qa_aload (n := 0) (q := 49) (qa_e rfl h) rfl g0
          replace h := qa_push (z := (-6 : Int32)) (q := 51) (qa_e rfl h) rfl (by decide)
          obtain ⟨r8, er8⟩ : ∃ x, x = (ma_9_3 (-6 : Int32) σ) := ⟨_, rfl⟩
          obtain ⟨M, h, hM, es⟩ := qa_c1 (y := 9) (as := [.ref 3, .int ((-6 : Int32))]) (rest := []) (i := .invokevirtual 9) (q := 54) (qa_e rfl h) (Or.inl rfl) rfl rfl (by decide) rfl (fun r hc => mb_9_3 hM es hc)
          rw [← er8] at h es
          have er := qa_ri (qa_e rfl h)
          subst er
          have e0 : ma_40_3 N a1 a2 a3 σ = (r8.1, r8.2) := by exact Eq.trans (if_neg c1) (Eq.trans (if_neg c3) (Eq.trans (if_neg c5) (Eq.trans (if_pos c7) (Eq.trans (qa_ie er8) (rfl)))))
          rw [e0]
          exact ⟨rfl, hM, es⟩
        · replace h := qa_ift (q := 55) (qa_e rfl h) rfl (qa_T_le c7)
          replace h := qa_push (z := (10 : Int32)) (q := 57) (qa_e rfl h) rfl (by decide)
          replace h := qa_aload (n := 0) (q := 58) (qa_e rfl h) rfl g0
          replace h := qa_gr (b := 4) (j := 0) (q := 61) (qa_e rfl h) rfl hM rfl (by decide)
          replace h := qa_gr (b := 5) (j := 2) (q := 64) (qa_e rfl h) rfl hM rfl (by decide)
          replace h := qa_iload (n := 1) (q := 65) (qa_e rfl h) rfl g1
          replace h := qa_iaload (jn := a1.toNatClampNeg) (q := 66) (qa_e rfl h) rfl hM es rfl
          replace h := qa_imul (q := 67) (qa_e rfl h) rfl
          replace h := qa_aload (n := 0) (q := 68) (qa_e rfl h) rfl g0
          replace h := qa_gr (b := 4) (j := 0) (q := 71) (qa_e rfl h) rfl hM rfl (by decide)
          replace h := qa_gr (b := 6) (j := 3) (q := 74) (qa_e rfl h) rfl hM rfl (by decide)
          replace h := qa_iload (n := 1) (q := 75) (qa_e rfl h) rfl g1
          replace h := qa_iaload (jn := a1.toNatClampNeg) (q := 76) (qa_e rfl h) rfl hM es rfl
          replace h := qa_iadd (q := 77) (qa_e rfl h) rfl
          obtain ⟨lv, h, g, T⟩ := qa_istore (n := 4) (q := 79) (qa_e rfl h) rfl
          replace g0 := T _ _ g0 (by decide) (Or.inr rfl)
          replace g1 := T _ _ g1 (by decide) (Or.inr rfl)
          replace g2 := T _ _ g2 (by decide) (Or.inr rfl)
          replace g3 := T _ _ g3 (by decide) (Or.inr rfl)
          have g4 := g
          clear g T
          replace h := qa_aload (n := 0) (q := 80) (qa_e rfl h) rfl g0
          replace h := qa_gr (b := 85) (j := 6) (q := 83) (qa_e rfl h) rfl hM rfl (by decide)
          replace h := qa_iload (n := 1) (q := 84) (qa_e rfl h) rfl g1
          replace h := qa_push (z := (4 : Int32)) (q := 85) (qa_e rfl h) rfl (by decide)
          replace h := qa_iload (n := 4) (q := 87) (qa_e rfl h) rfl g4
          obtain ⟨m9, em9⟩ : ∃ x, x = (ma_37_85 a1 (4 : Int32) (((10 : Int32) * (σ 5 a1.toNatClampNeg)) + (σ 6 a1.toNatClampNeg)) σ) := ⟨_, rfl⟩
          obtain ⟨M, h, hM, es⟩ := qa_c0 (y := 37) (as := [.ref 85, .int (a1), .int ((4 : Int32)), .int ((((10 : Int32) * (σ 5 a1.toNatClampNeg)) + (σ 6 a1.toNatClampNeg)))]) (rest := []) (i := .invokevirtual 37) (q := 90) (qa_e rfl h) (Or.inl rfl) rfl rfl (by decide) rfl (fun r hc => mb_37_85 hM es hc)
          rw [← em9] at es
          replace h := qa_aload (n := 0) (q := 91) (qa_e rfl h) rfl g0
          replace h := qa_gr (b := 4) (j := 0) (q := 94) (qa_e rfl h) rfl hM rfl (by decide)
          replace h := qa_gr (b := 5) (j := 2) (q := 97) (qa_e rfl h) rfl hM rfl (by decide)
          replace h := qa_iload (n := 1) (q := 98) (qa_e rfl h) rfl g1
          replace h := qa_iload (n := 2) (q := 99) (qa_e rfl h) rfl g2
          obtain ⟨m10, em10⟩ : ∃ x, x = qa_u m9 5 a1.toNatClampNeg a2 := ⟨_, rfl⟩
          obtain ⟨M, h, hM, es⟩ := qa_iastore (jn := a1.toNatClampNeg) (q := 100) (qa_e rfl h) rfl hM es rfl
          rw [← em10] at es
          replace h := qa_aload (n := 0) (q := 101) (qa_e rfl h) rfl g0
          replace h := qa_gr (b := 4) (j := 0) (q := 104) (qa_e rfl h) rfl hM rfl (by decide)
          replace h := qa_gr (b := 6) (j := 3) (q := 107) (qa_e rfl h) rfl hM rfl (by decide)
          replace h := qa_iload (n := 1) (q := 108) (qa_e rfl h) rfl g1
          replace h := qa_iload (n := 3) (q := 109) (qa_e rfl h) rfl g3
          obtain ⟨m11, em11⟩ : ∃ x, x = qa_u m10 6 a1.toNatClampNeg a3 := ⟨_, rfl⟩
          obtain ⟨M, h, hM, es⟩ := qa_iastore (jn := a1.toNatClampNeg) (q := 110) (qa_e rfl h) rfl hM es rfl
          rw [← em11] at es
          replace h := qa_aload (n := 0) (q := 111) (qa_e rfl h) rfl g0
          obtain ⟨m12, em12⟩ : ∃ x, x = (ma_28_3 N m11) := ⟨_, rfl⟩
          obtain ⟨M, h, hM, es⟩ := qa_c0 (y := 28) (as := [.ref 3]) (rest := []) (i := .invokevirtual 28) (q := 114) (qa_e rfl h) (Or.inl rfl) rfl rfl (by decide) rfl (fun r hc => mb_28_3 hN hM es hc)
          rw [← em12] at es
          replace h := qa_iload (n := 4) (q := 116) (qa_e rfl h) rfl g4
          have er := qa_ri (qa_e rfl h)
          subst er
          have e0 : ma_40_3 N a1 a2 a3 σ = ((((10 : Int32) * (σ 5 a1.toNatClampNeg)) + (σ 6 a1.toNatClampNeg)), m12) := by exact Eq.trans (if_neg c1) (Eq.trans (if_neg c3) (Eq.trans (if_neg c5) (Eq.trans (if_neg c7) (Eq.trans (qa_ie em9) (Eq.trans (qa_ie em10) (Eq.trans (qa_ie em11) (Eq.trans (qa_ie em12) (rfl))))))))
          rw [e0]
          exact ⟨rfl, hM, es⟩
/-- BuriedBySevens$History, undoLatest, (LBuriedBySevens$Cellar;)V -/
noncomputable def ma_42_85_4 (σ : qa_S) : qa_S :=
  if (σ 85 0) < (1 : Int32) then
    σ
  else
    qa_in (qa_u σ 85 0 ((σ 85 0) - (1 : Int32))) fun m2 =>
    if (ma_22_4 (m2 86 (m2 85 0).toNatClampNeg) m2) = (0 : Int32) then
      m2
    else
      qa_in (qa_u m2 7 (m2 86 (m2 85 0).toNatClampNeg).toNatClampNeg (m2 88 (m2 85 0).toNatClampNeg)) fun m5 =>
      qa_in (qa_u m2 5 (m2 86 (m2 85 0).toNatClampNeg).toNatClampNeg ((m2 88 (m2 85 0).toNatClampNeg) / (10 : Int32))) fun m7 =>
      qa_in (qa_u m7 6 (m2 86 (m2 85 0).toNatClampNeg).toNatClampNeg ((m2 88 (m2 85 0).toNatClampNeg) - (m2 88 (m2 85 0).toNatClampNeg) / (10 : Int32) * (10 : Int32))) fun m8 =>
      qa_in (qa_u m2 (9 + (m2 86 (m2 85 0).toNatClampNeg).toNatClampNeg) (m2 87 (m2 85 0).toNatClampNeg).toNatClampNeg (m2 88 (m2 85 0).toNatClampNeg)) fun m10 =>
      qa_in ((if (ma_26 (m2 87 (m2 85 0).toNatClampNeg)) = (0 : Int32) then m2 else m10)) fun m11 =>
      qa_in ((if (m2 87 (m2 85 0).toNatClampNeg) = (4 : Int32) then m8 else m11)) fun m12 =>
      qa_in ((if (m2 87 (m2 85 0).toNatClampNeg) = (-1 : Int32) then m5 else m12)) fun m13 =>
      m13
theorem mb_42_85_4 {f : Nat} {M : q4_M} {r : Option Value × q4_M} {σ : qa_S} (hM : qa_O M) (es : qa_s M = σ) (h : q4_run f 42 0 (lv_args 0 [.ref 85, .ref 4]) [] M 0 0 = some r) : r.1 = none ∧ qa_O r.2 ∧ qa_s r.2 = (ma_42_85_4 σ) := by
  obtain ⟨lv, el⟩ : ∃ l, l = lv_args 0 [.ref 85, .ref 4] := ⟨_, rfl⟩
  have g0 : q4_get lv 0 = some (.ref 85) := by rw [el]; rfl
  have g1 : q4_get lv 1 = some (.ref 4) := by rw [el]; rfl
  rw [← el] at h
  clear el
  replace h := qa_aload (n := 0) (q := 1) (qa_e rfl h) rfl g0
  replace h := qa_gi (j := 0) (q := 4) (qa_e rfl h) rfl hM es rfl (by decide)
  replace h := qa_push (z := (1 : Int32)) (q := 5) (qa_e rfl h) rfl (by decide)
  by_cases c1 : (σ 85 0) < (1 : Int32)
  · replace h := qa_iff (q := 8) (qa_e rfl h) rfl (qa_F_ge c1)
    have er := qa_rv (qa_e rfl h)
    subst er
    have e0 : ma_42_85_4 σ = σ := by exact Eq.trans (if_pos c1) (rfl)
    rw [e0]
    exact ⟨rfl, hM, es⟩
  · replace h := qa_ift (q := 9) (qa_e rfl h) rfl (qa_T_ge c1)
    replace h := qa_aload (n := 0) (q := 10) (qa_e rfl h) rfl g0
    replace h := qa_dupa (q := 11) (qa_e rfl h) rfl
    replace h := qa_gi (j := 0) (q := 14) (qa_e rfl h) rfl hM es rfl (by decide)
    replace h := qa_push (z := (1 : Int32)) (q := 15) (qa_e rfl h) rfl (by decide)
    replace h := qa_isub (q := 16) (qa_e rfl h) rfl
    obtain ⟨m2, em2⟩ : ∃ x, x = qa_u σ 85 0 ((σ 85 0) - (1 : Int32)) := ⟨_, rfl⟩
    obtain ⟨M, h, hM, es⟩ := qa_pf (j := 0) (q := 19) (qa_e rfl h) rfl hM es rfl (by decide)
    rw [← em2] at es
    replace h := qa_aload (n := 0) (q := 20) (qa_e rfl h) rfl g0
    replace h := qa_gr (b := 86) (j := 1) (q := 23) (qa_e rfl h) rfl hM rfl (by decide)
    replace h := qa_aload (n := 0) (q := 24) (qa_e rfl h) rfl g0
    replace h := qa_gi (j := 0) (q := 27) (qa_e rfl h) rfl hM es rfl (by decide)
    replace h := qa_iaload (jn := (m2 85 0).toNatClampNeg) (q := 28) (qa_e rfl h) rfl hM es rfl
    obtain ⟨lv, h, g, T⟩ := qa_istore (n := 2) (q := 29) (qa_e rfl h) rfl
    replace g0 := T _ _ g0 (by decide) (Or.inr rfl)
    replace g1 := T _ _ g1 (by decide) (Or.inr rfl)
    have g2 := g
    clear g T
    replace h := qa_aload (n := 0) (q := 30) (qa_e rfl h) rfl g0
    replace h := qa_gr (b := 87) (j := 2) (q := 33) (qa_e rfl h) rfl hM rfl (by decide)
    replace h := qa_aload (n := 0) (q := 34) (qa_e rfl h) rfl g0
    replace h := qa_gi (j := 0) (q := 37) (qa_e rfl h) rfl hM es rfl (by decide)
    replace h := qa_iaload (jn := (m2 85 0).toNatClampNeg) (q := 38) (qa_e rfl h) rfl hM es rfl
    obtain ⟨lv, h, g, T⟩ := qa_istore (n := 3) (q := 39) (qa_e rfl h) rfl
    replace g0 := T _ _ g0 (by decide) (Or.inr rfl)
    replace g1 := T _ _ g1 (by decide) (Or.inr rfl)
    replace g2 := T _ _ g2 (by decide) (Or.inr rfl)
    have g3 := g
    clear g T
    replace h := qa_aload (n := 0) (q := 40) (qa_e rfl h) rfl g0
    replace h := qa_gr (b := 88) (j := 3) (q := 43) (qa_e rfl h) rfl hM rfl (by decide)
    replace h := qa_aload (n := 0) (q := 44) (qa_e rfl h) rfl g0
    replace h := qa_gi (j := 0) (q := 47) (qa_e rfl h) rfl hM es rfl (by decide)
    replace h := qa_iaload (jn := (m2 85 0).toNatClampNeg) (q := 48) (qa_e rfl h) rfl hM es rfl
    obtain ⟨lv, h, g, T⟩ := qa_istore (n := 4) (q := 50) (qa_e rfl h) rfl
    replace g1 := T _ _ g1 (by decide) (Or.inr rfl)
    replace g2 := T _ _ g2 (by decide) (Or.inr rfl)
    replace g3 := T _ _ g3 (by decide) (Or.inr rfl)
    have g4 := g
    clear g T
    replace h := qa_aload (n := 1) (q := 51) (qa_e rfl h) rfl g1
    replace h := qa_iload (n := 2) (q := 52) (qa_e rfl h) rfl g2
    obtain ⟨M, h, hM, es⟩ := qa_c1 (y := 22) (as := [.ref 4, .int ((m2 86 (m2 85 0).toNatClampNeg))]) (rest := []) (i := .invokevirtual 22) (q := 55) (qa_e rfl h) (Or.inl rfl) rfl rfl (by decide) rfl (fun r hc => mb_22_4 hM es hc)
    by_cases c3 : (ma_22_4 (m2 86 (m2 85 0).toNatClampNeg) m2) = (0 : Int32)
    · replace h := qa_icf (q := 58) (qa_e rfl h) rfl (qa_F_ne c3)
      have er := qa_rv (qa_e rfl h)
      subst er
      have e0 : ma_42_85_4 σ = m2 := by exact Eq.trans (if_neg c1) (Eq.trans (qa_ie em2) (Eq.trans (if_pos c3) (rfl)))
      rw [e0]
      exact ⟨rfl, hM, es⟩
    · replace h := qa_ict (q := 59) (qa_e rfl h) rfl (qa_T_ne c3)
      replace h := qa_iload (n := 3) (q := 60) (qa_e rfl h) rfl g3
      replace h := qa_push (z := (-1 : Int32)) (q := 61) (qa_e rfl h) rfl (by decide)
      obtain ⟨m5, em5⟩ : ∃ x, x = qa_u m2 7 (m2 86 (m2 85 0).toNatClampNeg).toNatClampNeg (m2 88 (m2 85 0).toNatClampNeg) := ⟨_, rfl⟩
      obtain ⟨m7, em7⟩ : ∃ x, x = qa_u m2 5 (m2 86 (m2 85 0).toNatClampNeg).toNatClampNeg ((m2 88 (m2 85 0).toNatClampNeg) / (10 : Int32)) := ⟨_, rfl⟩
      obtain ⟨m8, em8⟩ : ∃ x, x = qa_u m7 6 (m2 86 (m2 85 0).toNatClampNeg).toNatClampNeg ((m2 88 (m2 85 0).toNatClampNeg) - (m2 88 (m2 85 0).toNatClampNeg) / (10 : Int32) * (10 : Int32)) := ⟨_, rfl⟩
      obtain ⟨m10, em10⟩ : ∃ x, x = qa_u m2 (9 + (m2 86 (m2 85 0).toNatClampNeg).toNatClampNeg) (m2 87 (m2 85 0).toNatClampNeg).toNatClampNeg (m2 88 (m2 85 0).toNatClampNeg) := ⟨_, rfl⟩
      obtain ⟨m11, em11⟩ : ∃ x, x = (if (ma_26 (m2 87 (m2 85 0).toNatClampNeg)) = (0 : Int32) then m2 else m10) := ⟨_, rfl⟩
      obtain ⟨m12, em12⟩ : ∃ x, x = (if (m2 87 (m2 85 0).toNatClampNeg) = (4 : Int32) then m8 else m11) := ⟨_, rfl⟩
      obtain ⟨m13, em13⟩ : ∃ x, x = (if (m2 87 (m2 85 0).toNatClampNeg) = (-1 : Int32) then m5 else m12) := ⟨_, rfl⟩
      obtain ⟨lv, M, h, hM, es⟩ : ∃ lv M, q4_run f 42 122 lv [] M 0 0 = some r ∧ qa_O M ∧ qa_s M = m13 := by
        by_cases c4 : (m2 87 (m2 85 0).toNatClampNeg) = (-1 : Int32)
        · replace h := qa_iff (q := 64) (qa_e rfl h) rfl (qa_F_ne c4)
          replace h := qa_aload (n := 1) (q := 65) (qa_e rfl h) rfl g1
          replace h := qa_gr (b := 7) (j := 4) (q := 68) (qa_e rfl h) rfl hM rfl (by decide)
          replace h := qa_iload (n := 2) (q := 69) (qa_e rfl h) rfl g2
          replace h := qa_iload (n := 4) (q := 71) (qa_e rfl h) rfl g4
          obtain ⟨M, h, hM, es⟩ := qa_iastore (jn := (m2 86 (m2 85 0).toNatClampNeg).toNatClampNeg) (q := 72) (qa_e rfl h) rfl hM es rfl
          rw [← em5] at es
          replace h := qa_goto (q := 122) (qa_e rfl h) rfl
          exact ⟨lv, M, h, hM, ((qa_ms1 c4 es).trans em13.symm)⟩
        · replace h := qa_ift (q := 75) (qa_e rfl h) rfl (qa_T_ne c4)
          replace h := qa_iload (n := 3) (q := 76) (qa_e rfl h) rfl g3
          replace h := qa_push (z := (4 : Int32)) (q := 77) (qa_e rfl h) rfl (by decide)
          obtain ⟨lv, M, h, hM, es⟩ : ∃ lv M, q4_run f 42 122 lv [] M 0 0 = some r ∧ qa_O M ∧ qa_s M = m12 := by
            by_cases c6 : (m2 87 (m2 85 0).toNatClampNeg) = (4 : Int32)
            · replace h := qa_iff (q := 80) (qa_e rfl h) rfl (qa_F_ne c6)
              replace h := qa_aload (n := 1) (q := 81) (qa_e rfl h) rfl g1
              replace h := qa_gr (b := 5) (j := 2) (q := 84) (qa_e rfl h) rfl hM rfl (by decide)
              replace h := qa_iload (n := 2) (q := 85) (qa_e rfl h) rfl g2
              replace h := qa_iload (n := 4) (q := 87) (qa_e rfl h) rfl g4
              replace h := qa_push (z := (10 : Int32)) (q := 89) (qa_e rfl h) rfl (by decide)
              replace h := qa_idiv (q := 90) (qa_e rfl h) rfl
              obtain ⟨M, h, hM, es⟩ := qa_iastore (jn := (m2 86 (m2 85 0).toNatClampNeg).toNatClampNeg) (q := 91) (qa_e rfl h) rfl hM es rfl
              rw [← em7] at es
              replace h := qa_aload (n := 1) (q := 92) (qa_e rfl h) rfl g1
              replace h := qa_gr (b := 6) (j := 3) (q := 95) (qa_e rfl h) rfl hM rfl (by decide)
              replace h := qa_iload (n := 2) (q := 96) (qa_e rfl h) rfl g2
              replace h := qa_iload (n := 4) (q := 98) (qa_e rfl h) rfl g4
              replace h := qa_push (z := (10 : Int32)) (q := 100) (qa_e rfl h) rfl (by decide)
              replace h := qa_irem (q := 101) (qa_e rfl h) rfl
              obtain ⟨M, h, hM, es⟩ := qa_iastore (jn := (m2 86 (m2 85 0).toNatClampNeg).toNatClampNeg) (q := 102) (qa_e rfl h) rfl hM es rfl
              rw [← em8] at es
              replace h := qa_goto (q := 122) (qa_e rfl h) rfl
              exact ⟨lv, M, h, hM, ((qa_ms1 c6 es).trans em12.symm)⟩
            · replace h := qa_ift (q := 105) (qa_e rfl h) rfl (qa_T_ne c6)
              replace h := qa_iload (n := 3) (q := 106) (qa_e rfl h) rfl g3
              obtain ⟨M, h, hM, es⟩ := qa_c1 (y := 26) (as := [.int ((m2 87 (m2 85 0).toNatClampNeg))]) (rest := []) (i := .invokestatic 26) (q := 109) (qa_e rfl h) (Or.inr rfl) rfl rfl (by decide) rfl (fun r hc => mb_26 hM es hc)
              obtain ⟨lv, M, h, hM, es⟩ : ∃ lv M, q4_run f 42 122 lv [] M 0 0 = some r ∧ qa_O M ∧ qa_s M = m11 := by
                by_cases c9 : (ma_26 (m2 87 (m2 85 0).toNatClampNeg)) = (0 : Int32)
                · replace h := qa_ict (q := 122) (qa_e rfl h) rfl (qa_T_eq c9)
                  exact ⟨lv, M, h, hM, ((qa_ms1 c9 es).trans em11.symm)⟩
                · replace h := qa_icf (q := 112) (qa_e rfl h) rfl (qa_F_eq c9)
                  replace h := qa_aload (n := 1) (q := 113) (qa_e rfl h) rfl g1
                  replace h := qa_gr (b := 8) (j := 5) (q := 116) (qa_e rfl h) rfl hM rfl (by decide)
                  replace h := qa_iload (n := 2) (q := 117) (qa_e rfl h) rfl g2
                  replace h := qa_aaload (b := 9) (jn := (m2 86 (m2 85 0).toNatClampNeg).toNatClampNeg) (q := 118) (qa_e rfl h) rfl hM rfl (by decide) (by decide +kernel)
                  replace h := qa_iload (n := 3) (q := 119) (qa_e rfl h) rfl g3
                  replace h := qa_iload (n := 4) (q := 121) (qa_e rfl h) rfl g4
                  obtain ⟨M, h, hM, es⟩ := qa_iastore (jn := (m2 87 (m2 85 0).toNatClampNeg).toNatClampNeg) (q := 122) (qa_e rfl h) rfl hM es rfl
                  rw [← em10] at es
                  exact ⟨lv, M, h, hM, ((qa_ms0 c9 es).trans em11.symm)⟩
              exact ⟨lv, M, h, hM, ((qa_ms0 c6 es).trans em12.symm)⟩
          exact ⟨lv, M, h, hM, ((qa_ms0 c4 es).trans em13.symm)⟩
      have er := qa_rv (qa_e rfl h)
      subst er
      have e0 : ma_42_85_4 σ = m13 := by exact Eq.trans (if_neg c1) (Eq.trans (qa_ie em2) (Eq.trans (if_neg c3) (Eq.trans (qa_ie em5) (Eq.trans (qa_ie em7) (Eq.trans (qa_ie em8) (Eq.trans (qa_ie em10) (Eq.trans (qa_ie em11) (Eq.trans (qa_ie em12) (Eq.trans (qa_ie em13) (rfl))))))))))
      rw [e0]
      exact ⟨rfl, hM, es⟩
/-- BuriedBySevens, back, ()I -/
noncomputable def ma_41_3 (N : Nat) (σ : qa_S) : Int32 × qa_S :=
  if (σ 85 0) < (1 : Int32) then
    qa_in ((ma_9_3 (-3 : Int32) σ)) fun r2 =>
    (r2.1, r2.2)
  else
    qa_in ((ma_42_85_4 σ)) fun m3 =>
    qa_in ((ma_28_3 N m3)) fun m4 =>
    ((m4 85 0), m4)
theorem mb_41_3 {f N : Nat} (hN : f ≤ N) {M : q4_M} {r : Option Value × q4_M} {σ : qa_S} (hM : qa_O M) (es : qa_s M = σ) (h : q4_run f 41 0 (lv_args 0 [.ref 3]) [] M 0 0 = some r) : r.1 = some (.int ((ma_41_3 N σ).1)) ∧ qa_O r.2 ∧ qa_s r.2 = (ma_41_3 N σ).2 := by
  obtain ⟨lv, el⟩ : ∃ l, l = lv_args 0 [.ref 3] := ⟨_, rfl⟩
  have g0 : q4_get lv 0 = some (.ref 3) := by rw [el]; rfl
  rw [← el] at h
  clear el
  replace h := qa_aload (n := 0) (q := 1) (qa_e rfl h) rfl g0
  replace h := qa_gr (b := 85) (j := 6) (q := 4) (qa_e rfl h) rfl hM rfl (by decide)
  replace h := qa_gi (j := 0) (q := 7) (qa_e rfl h) rfl hM es rfl (by decide)
  replace h := qa_push (z := (1 : Int32)) (q := 8) (qa_e rfl h) rfl (by decide)
  by_cases c1 : (σ 85 0) < (1 : Int32)
  · replace h := qa_iff (q := 11) (qa_e rfl h) rfl (qa_F_ge c1)
    replace h := qa_aload (n := 0) (q := 12) (qa_e rfl h) rfl g0
    replace h := qa_push (z := (-3 : Int32)) (q := 14) (qa_e rfl h) rfl (by decide)
    obtain ⟨r2, er2⟩ : ∃ x, x = (ma_9_3 (-3 : Int32) σ) := ⟨_, rfl⟩
    obtain ⟨M, h, hM, es⟩ := qa_c1 (y := 9) (as := [.ref 3, .int ((-3 : Int32))]) (rest := []) (i := .invokevirtual 9) (q := 17) (qa_e rfl h) (Or.inl rfl) rfl rfl (by decide) rfl (fun r hc => mb_9_3 hM es hc)
    rw [← er2] at h es
    have er := qa_ri (qa_e rfl h)
    subst er
    have e0 : ma_41_3 N σ = (r2.1, r2.2) := by exact Eq.trans (if_pos c1) (Eq.trans (qa_ie er2) (rfl))
    rw [e0]
    exact ⟨rfl, hM, es⟩
  · replace h := qa_ift (q := 18) (qa_e rfl h) rfl (qa_T_ge c1)
    replace h := qa_aload (n := 0) (q := 19) (qa_e rfl h) rfl g0
    replace h := qa_gr (b := 85) (j := 6) (q := 22) (qa_e rfl h) rfl hM rfl (by decide)
    replace h := qa_aload (n := 0) (q := 23) (qa_e rfl h) rfl g0
    replace h := qa_gr (b := 4) (j := 0) (q := 26) (qa_e rfl h) rfl hM rfl (by decide)
    obtain ⟨m3, em3⟩ : ∃ x, x = (ma_42_85_4 σ) := ⟨_, rfl⟩
    obtain ⟨M, h, hM, es⟩ := qa_c0 (y := 42) (as := [.ref 85, .ref 4]) (rest := []) (i := .invokevirtual 42) (q := 29) (qa_e rfl h) (Or.inl rfl) rfl rfl (by decide) rfl (fun r hc => mb_42_85_4 hM es hc)
    rw [← em3] at es
    replace h := qa_aload (n := 0) (q := 30) (qa_e rfl h) rfl g0
    obtain ⟨m4, em4⟩ : ∃ x, x = (ma_28_3 N m3) := ⟨_, rfl⟩
    obtain ⟨M, h, hM, es⟩ := qa_c0 (y := 28) (as := [.ref 3]) (rest := []) (i := .invokevirtual 28) (q := 33) (qa_e rfl h) (Or.inl rfl) rfl rfl (by decide) rfl (fun r hc => mb_28_3 hN hM es hc)
    rw [← em4] at es
    replace h := qa_aload (n := 0) (q := 34) (qa_e rfl h) rfl g0
    replace h := qa_gr (b := 85) (j := 6) (q := 37) (qa_e rfl h) rfl hM rfl (by decide)
    replace h := qa_gi (j := 0) (q := 40) (qa_e rfl h) rfl hM es rfl (by decide)
    have er := qa_ri (qa_e rfl h)
    subst er
    have e0 : ma_41_3 N σ = ((m4 85 0), m4) := by exact Eq.trans (if_neg c1) (Eq.trans (qa_ie em3) (Eq.trans (qa_ie em4) (rfl)))
    rw [e0]
    exact ⟨rfl, hM, es⟩
/-- BuriedBySevens, isCaskOrGlass, (I)Z -/
noncomputable def ma_44_3 (a1 : Int32) (σ : qa_S) : Int32 :=
  (if a1 = (-1 : Int32) then (1 : Int32) else (if (ma_22_4 a1 σ) = (0 : Int32) then (0 : Int32) else (1 : Int32)))
theorem mb_44_3 {f : Nat} {M : q4_M} {r : Option Value × q4_M} {σ : qa_S} {a1 : Int32} (hM : qa_O M) (es : qa_s M = σ) (h : q4_run f 44 0 (lv_args 0 [.ref 3, .int (a1)]) [] M 0 0 = some r) : r.1 = some (.int ((ma_44_3 a1 σ))) ∧ qa_O r.2 ∧ qa_s r.2 = σ := by
  obtain ⟨lv, el⟩ : ∃ l, l = lv_args 0 [.ref 3, .int (a1)] := ⟨_, rfl⟩
  have g0 : q4_get lv 0 = some (.ref 3) := by rw [el]; rfl
  have g1 : q4_get lv 1 = some (.int (a1)) := by rw [el]; rfl
  rw [← el] at h
  clear el
  replace h := qa_iload (n := 1) (q := 1) (qa_e rfl h) rfl g1
  replace h := qa_push (z := (-1 : Int32)) (q := 2) (qa_e rfl h) rfl (by decide)
  obtain ⟨lv, M, h, hM, es⟩ : ∃ lv M, q4_run f 44 21 lv [.int ((if a1 = (-1 : Int32) then (1 : Int32) else (if (ma_22_4 a1 σ) = (0 : Int32) then (0 : Int32) else (1 : Int32))))] M 0 0 = some r ∧ qa_O M ∧ qa_s M = σ := by
    by_cases c1 : a1 = (-1 : Int32)
    · replace h := qa_ift (q := 16) (qa_e rfl h) rfl (qa_T_eq c1)
      replace h := qa_push (z := (1 : Int32)) (q := 17) (qa_e rfl h) rfl (by decide)
      replace h := qa_goto (q := 21) (qa_e rfl h) rfl
      exact ⟨lv, M, (qa_hi1 c1 h), hM, es⟩
    · replace h := qa_iff (q := 5) (qa_e rfl h) rfl (qa_F_eq c1)
      replace h := qa_aload (n := 0) (q := 6) (qa_e rfl h) rfl g0
      replace h := qa_gr (b := 4) (j := 0) (q := 9) (qa_e rfl h) rfl hM rfl (by decide)
      replace h := qa_iload (n := 1) (q := 10) (qa_e rfl h) rfl g1
      obtain ⟨M, h, hM, es⟩ := qa_c1 (y := 22) (as := [.ref 4, .int (a1)]) (rest := []) (i := .invokevirtual 22) (q := 13) (qa_e rfl h) (Or.inl rfl) rfl rfl (by decide) rfl (fun r hc => mb_22_4 hM es hc)
      obtain ⟨lv, M, h, hM, es⟩ : ∃ lv M, q4_run f 44 21 lv [.int ((if (ma_22_4 a1 σ) = (0 : Int32) then (0 : Int32) else (1 : Int32)))] M 0 0 = some r ∧ qa_O M ∧ qa_s M = σ := by
        by_cases c2 : (ma_22_4 a1 σ) = (0 : Int32)
        · replace h := qa_ict (q := 20) (qa_e rfl h) rfl (qa_T_eq c2)
          replace h := qa_push (z := (0 : Int32)) (q := 21) (qa_e rfl h) rfl (by decide)
          exact ⟨lv, M, (qa_hi1 c2 h), hM, es⟩
        · replace h := qa_icf (q := 16) (qa_e rfl h) rfl (qa_F_eq c2)
          replace h := qa_push (z := (1 : Int32)) (q := 17) (qa_e rfl h) rfl (by decide)
          replace h := qa_goto (q := 21) (qa_e rfl h) rfl
          exact ⟨lv, M, (qa_hi0 c2 h), hM, es⟩
      exact ⟨lv, M, (qa_hi0 c1 h), hM, es⟩
  have er := qa_ri (qa_e rfl h)
  subst er
  have e0 : ma_44_3 a1 σ = (if a1 = (-1 : Int32) then (1 : Int32) else (if (ma_22_4 a1 σ) = (0 : Int32) then (0 : Int32) else (1 : Int32))) := by exact rfl
  rw [e0]
  exact ⟨rfl, hM, es⟩
