/-- BuriedBySevens, refuse, (I)I -/
noncomputable def ma_9_3 (a1 : Int32) (σ : qa_S) : Int32 × qa_S :=
  qa_in (qa_u σ 93 (-a1).toNatClampNeg ((σ 93 (-a1).toNatClampNeg) + (1 : Int32))) fun m3 =>
  qa_in ((if (-a1) < (7 : Int32) then m3 else σ)) fun m4 =>
  qa_in ((if a1 < (0 : Int32) then m4 else σ)) fun m5 =>
  (a1, m5)
theorem mb_9_3 {f : Nat} {M : q4_M} {r : Option Value × q4_M} {σ : qa_S} {a1 : Int32} (hM : qa_O M) (es : qa_s M = σ) (h : q4_run f 9 0 (lv_args 0 [.ref 3, .int (a1)]) [] M 0 0 = some r) : r.1 = some (.int ((ma_9_3 a1 σ).1)) ∧ qa_O r.2 ∧ qa_s r.2 = (ma_9_3 a1 σ).2 := by
  obtain ⟨lv, el⟩ : ∃ l, l = lv_args 0 [.ref 3, .int (a1)] := ⟨_, rfl⟩
  have g0 : q4_get lv 0 = some (.ref 3) := by rw [el]; rfl
  have g1 : q4_get lv 1 = some (.int (a1)) := by rw [el]; rfl
  rw [← el] at h
  clear el
  replace h := qa_iload (n := 1) (q := 1) (qa_e rfl h) rfl g1
  obtain ⟨m3, em3⟩ : ∃ x, x = qa_u σ 93 (-a1).toNatClampNeg ((σ 93 (-a1).toNatClampNeg) + (1 : Int32)) := ⟨_, rfl⟩
  obtain ⟨m4, em4⟩ : ∃ x, x = (if (-a1) < (7 : Int32) then m3 else σ) := ⟨_, rfl⟩
  obtain ⟨m5, em5⟩ : ∃ x, x = (if a1 < (0 : Int32) then m4 else σ) := ⟨_, rfl⟩
  obtain ⟨lv, M, h, hM, es, g1⟩ : ∃ lv M, q4_run f 9 25 lv [] M 0 0 = some r ∧ qa_O M ∧ qa_s M = m5 ∧ q4_get lv 1 = some (.int (a1)) := by
    by_cases c1 : a1 < (0 : Int32)
    · replace h := qa_icf (q := 4) (qa_e rfl h) rfl (qa_F_ge c1)
      replace h := qa_iload (n := 1) (q := 5) (qa_e rfl h) rfl g1
      replace h := qa_ineg (q := 6) (qa_e rfl h) rfl
      replace h := qa_aload (n := 0) (q := 7) (qa_e rfl h) rfl g0
      replace h := qa_gr (b := 93) (j := 10) (q := 10) (qa_e rfl h) rfl hM rfl (by decide)
      replace h := qa_alen (z := (7 : Int32)) (q := 11) (qa_e rfl h) rfl hM (by decide) (by decide)
      obtain ⟨lv, M, h, hM, es, g1⟩ : ∃ lv M, q4_run f 9 25 lv [] M 0 0 = some r ∧ qa_O M ∧ qa_s M = m4 ∧ q4_get lv 1 = some (.int (a1)) := by
        by_cases c2 : (-a1) < (7 : Int32)
        · replace h := qa_iff (q := 14) (qa_e rfl h) rfl (qa_F_ge c2)
          replace h := qa_aload (n := 0) (q := 15) (qa_e rfl h) rfl g0
          replace h := qa_gr (b := 93) (j := 10) (q := 18) (qa_e rfl h) rfl hM rfl (by decide)
          replace h := qa_iload (n := 1) (q := 19) (qa_e rfl h) rfl g1
          replace h := qa_ineg (q := 20) (qa_e rfl h) rfl
          replace h := qa_dup2 (q := 21) (qa_e rfl h) rfl
          replace h := qa_iaload (jn := (-a1).toNatClampNeg) (q := 22) (qa_e rfl h) rfl hM es rfl
          replace h := qa_push (z := (1 : Int32)) (q := 23) (qa_e rfl h) rfl (by decide)
          replace h := qa_iadd (q := 24) (qa_e rfl h) rfl
          obtain ⟨M, h, hM, es⟩ := qa_iastore (jn := (-a1).toNatClampNeg) (q := 25) (qa_e rfl h) rfl hM es rfl
          rw [← em3] at es
          exact ⟨lv, M, h, hM, ((qa_ms1 c2 es).trans em4.symm), g1⟩
        · replace h := qa_ift (q := 25) (qa_e rfl h) rfl (qa_T_ge c2)
          exact ⟨lv, M, h, hM, ((qa_ms0 c2 es).trans em4.symm), g1⟩
      exact ⟨lv, M, h, hM, ((qa_ms1 c1 es).trans em5.symm), g1⟩
    · replace h := qa_ict (q := 25) (qa_e rfl h) rfl (qa_T_ge c1)
      exact ⟨lv, M, h, hM, ((qa_ms0 c1 es).trans em5.symm), g1⟩
  replace h := qa_iload (n := 1) (q := 26) (qa_e rfl h) rfl g1
  have er := qa_ri (qa_e rfl h)
  subst er
  have e0 : ma_9_3 a1 σ = (a1, m5) := by exact Eq.trans (qa_ie em3) (Eq.trans (qa_ie em4) (Eq.trans (qa_ie em5) (rfl)))
  rw [e0]
  exact ⟨rfl, hM, es⟩
/-- BuriedBySevens$Text, append, (I)V -/
noncomputable def ma_10_83 (a1 : Int32) (σ : qa_S) : qa_S :=
  qa_in (qa_u σ 84 (σ 83 0).toNatClampNeg a1) fun m2 =>
  qa_in (qa_u m2 83 0 ((m2 83 0) + (1 : Int32))) fun m3 =>
  qa_in ((if (σ 83 0) < (96 : Int32) then m3 else σ)) fun m4 =>
  m4
theorem mb_10_83 {f : Nat} {M : q4_M} {r : Option Value × q4_M} {σ : qa_S} {a1 : Int32} (hM : qa_O M) (es : qa_s M = σ) (h : q4_run f 10 0 (lv_args 0 [.ref 83, .int (a1)]) [] M 0 0 = some r) : r.1 = none ∧ qa_O r.2 ∧ qa_s r.2 = (ma_10_83 a1 σ) := by
  obtain ⟨lv, el⟩ : ∃ l, l = lv_args 0 [.ref 83, .int (a1)] := ⟨_, rfl⟩
  have g0 : q4_get lv 0 = some (.ref 83) := by rw [el]; rfl
  have g1 : q4_get lv 1 = some (.int (a1)) := by rw [el]; rfl
  rw [← el] at h
  clear el
  replace h := qa_aload (n := 0) (q := 1) (qa_e rfl h) rfl g0
  replace h := qa_gi (j := 0) (q := 4) (qa_e rfl h) rfl hM es rfl (by decide)
  replace h := qa_push (z := (96 : Int32)) (q := 6) (qa_e rfl h) rfl (by decide)
  obtain ⟨m2, em2⟩ : ∃ x, x = qa_u σ 84 (σ 83 0).toNatClampNeg a1 := ⟨_, rfl⟩
  obtain ⟨m3, em3⟩ : ∃ x, x = qa_u m2 83 0 ((m2 83 0) + (1 : Int32)) := ⟨_, rfl⟩
  obtain ⟨m4, em4⟩ : ∃ x, x = (if (σ 83 0) < (96 : Int32) then m3 else σ) := ⟨_, rfl⟩
  obtain ⟨lv, M, h, hM, es⟩ : ∃ lv M, q4_run f 10 29 lv [] M 0 0 = some r ∧ qa_O M ∧ qa_s M = m4 := by
    by_cases c1 : (σ 83 0) < (96 : Int32)
    · replace h := qa_iff (q := 9) (qa_e rfl h) rfl (qa_F_ge c1)
      replace h := qa_aload (n := 0) (q := 10) (qa_e rfl h) rfl g0
      replace h := qa_gr (b := 84) (j := 1) (q := 13) (qa_e rfl h) rfl hM rfl (by decide)
      replace h := qa_aload (n := 0) (q := 14) (qa_e rfl h) rfl g0
      replace h := qa_gi (j := 0) (q := 17) (qa_e rfl h) rfl hM es rfl (by decide)
      replace h := qa_iload (n := 1) (q := 18) (qa_e rfl h) rfl g1
      obtain ⟨M, h, hM, es⟩ := qa_iastore (jn := (σ 83 0).toNatClampNeg) (q := 19) (qa_e rfl h) rfl hM es rfl
      rw [← em2] at es
      replace h := qa_aload (n := 0) (q := 20) (qa_e rfl h) rfl g0
      replace h := qa_dupa (q := 21) (qa_e rfl h) rfl
      replace h := qa_gi (j := 0) (q := 24) (qa_e rfl h) rfl hM es rfl (by decide)
      replace h := qa_push (z := (1 : Int32)) (q := 25) (qa_e rfl h) rfl (by decide)
      replace h := qa_iadd (q := 26) (qa_e rfl h) rfl
      obtain ⟨M, h, hM, es⟩ := qa_pf (j := 0) (q := 29) (qa_e rfl h) rfl hM es rfl (by decide)
      rw [← em3] at es
      exact ⟨lv, M, h, hM, ((qa_ms1 c1 es).trans em4.symm)⟩
    · replace h := qa_ift (q := 29) (qa_e rfl h) rfl (qa_T_ge c1)
      exact ⟨lv, M, h, hM, ((qa_ms0 c1 es).trans em4.symm)⟩
  have er := qa_rv (qa_e rfl h)
  subst er
  have e0 : ma_10_83 a1 σ = m4 := by exact Eq.trans (qa_ie em2) (Eq.trans (qa_ie em3) (Eq.trans (qa_ie em4) (rfl)))
  rw [e0]
  exact ⟨rfl, hM, es⟩
/-- BuriedBySevens, feed, (I)I -/
noncomputable def ma_8_3 (a1 : Int32) (σ : qa_S) : Int32 × qa_S :=
  if a1 < (0 : Int32) then
    qa_in ((ma_9_3 (-4 : Int32) σ)) fun r2 =>
    (r2.1, r2.2)
  else
    if (255 : Int32) < a1 then
      qa_in ((ma_9_3 (-6 : Int32) σ)) fun r4 =>
      (r4.1, r4.2)
    else
      if (σ 83 0) < (96 : Int32) then
        qa_in ((ma_10_83 a1 σ)) fun m6 =>
        ((m6 83 0), m6)
      else
        qa_in ((ma_9_3 (-6 : Int32) σ)) fun r7 =>
        (r7.1, r7.2)
theorem mb_8_3 {f : Nat} {M : q4_M} {r : Option Value × q4_M} {σ : qa_S} {a1 : Int32} (hM : qa_O M) (es : qa_s M = σ) (h : q4_run f 8 0 (lv_args 0 [.ref 3, .int (a1)]) [] M 0 0 = some r) : r.1 = some (.int ((ma_8_3 a1 σ).1)) ∧ qa_O r.2 ∧ qa_s r.2 = (ma_8_3 a1 σ).2 := by
  obtain ⟨lv, el⟩ : ∃ l, l = lv_args 0 [.ref 3, .int (a1)] := ⟨_, rfl⟩
  have g0 : q4_get lv 0 = some (.ref 3) := by rw [el]; rfl
  have g1 : q4_get lv 1 = some (.int (a1)) := by rw [el]; rfl
  rw [← el] at h
  clear el
  replace h := qa_iload (n := 1) (q := 1) (qa_e rfl h) rfl g1
  by_cases c1 : a1 < (0 : Int32)
  · replace h := qa_icf (q := 4) (qa_e rfl h) rfl (qa_F_ge c1)
    replace h := qa_aload (n := 0) (q := 5) (qa_e rfl h) rfl g0
    replace h := qa_push (z := (-4 : Int32)) (q := 7) (qa_e rfl h) rfl (by decide)
    obtain ⟨r2, er2⟩ : ∃ x, x = (ma_9_3 (-4 : Int32) σ) := ⟨_, rfl⟩
    obtain ⟨M, h, hM, es⟩ := qa_c1 (y := 9) (as := [.ref 3, .int ((-4 : Int32))]) (rest := []) (i := .invokevirtual 9) (q := 10) (qa_e rfl h) (Or.inl rfl) rfl rfl (by decide) rfl (fun r hc => mb_9_3 hM es hc)
    rw [← er2] at h es
    have er := qa_ri (qa_e rfl h)
    subst er
    have e0 : ma_8_3 a1 σ = (r2.1, r2.2) := by exact Eq.trans (if_pos c1) (Eq.trans (qa_ie er2) (rfl))
    rw [e0]
    exact ⟨rfl, hM, es⟩
  · replace h := qa_ict (q := 11) (qa_e rfl h) rfl (qa_T_ge c1)
    replace h := qa_iload (n := 1) (q := 12) (qa_e rfl h) rfl g1
    replace h := qa_push (z := (255 : Int32)) (q := 15) (qa_e rfl h) rfl (by decide)
    by_cases c3 : (255 : Int32) < a1
    · replace h := qa_ift (q := 30) (qa_e rfl h) rfl (qa_T_gt c3)
      replace h := qa_aload (n := 0) (q := 31) (qa_e rfl h) rfl g0
      replace h := qa_push (z := (-6 : Int32)) (q := 33) (qa_e rfl h) rfl (by decide)
      obtain ⟨r4, er4⟩ : ∃ x, x = (ma_9_3 (-6 : Int32) σ) := ⟨_, rfl⟩
      obtain ⟨M, h, hM, es⟩ := qa_c1 (y := 9) (as := [.ref 3, .int ((-6 : Int32))]) (rest := []) (i := .invokevirtual 9) (q := 36) (qa_e rfl h) (Or.inl rfl) rfl rfl (by decide) rfl (fun r hc => mb_9_3 hM es hc)
      rw [← er4] at h es
      have er := qa_ri (qa_e rfl h)
      subst er
      have e0 : ma_8_3 a1 σ = (r4.1, r4.2) := by exact Eq.trans (if_neg c1) (Eq.trans (if_pos c3) (Eq.trans (qa_ie er4) (rfl)))
      rw [e0]
      exact ⟨rfl, hM, es⟩
    · replace h := qa_iff (q := 18) (qa_e rfl h) rfl (qa_F_gt c3)
      replace h := qa_aload (n := 0) (q := 19) (qa_e rfl h) rfl g0
      replace h := qa_gr (b := 83) (j := 5) (q := 22) (qa_e rfl h) rfl hM rfl (by decide)
      replace h := qa_gi (j := 0) (q := 25) (qa_e rfl h) rfl hM es rfl (by decide)
      replace h := qa_push (z := (96 : Int32)) (q := 27) (qa_e rfl h) rfl (by decide)
      by_cases c5 : (σ 83 0) < (96 : Int32)
      · replace h := qa_ift (q := 37) (qa_e rfl h) rfl (qa_T_lt c5)
        replace h := qa_aload (n := 0) (q := 38) (qa_e rfl h) rfl g0
        replace h := qa_gr (b := 83) (j := 5) (q := 41) (qa_e rfl h) rfl hM rfl (by decide)
        replace h := qa_iload (n := 1) (q := 42) (qa_e rfl h) rfl g1
        obtain ⟨m6, em6⟩ : ∃ x, x = (ma_10_83 a1 σ) := ⟨_, rfl⟩
        obtain ⟨M, h, hM, es⟩ := qa_c0 (y := 10) (as := [.ref 83, .int (a1)]) (rest := []) (i := .invokevirtual 10) (q := 45) (qa_e rfl h) (Or.inl rfl) rfl rfl (by decide) rfl (fun r hc => mb_10_83 hM es hc)
        rw [← em6] at es
        replace h := qa_aload (n := 0) (q := 46) (qa_e rfl h) rfl g0
        replace h := qa_gr (b := 83) (j := 5) (q := 49) (qa_e rfl h) rfl hM rfl (by decide)
        replace h := qa_gi (j := 0) (q := 52) (qa_e rfl h) rfl hM es rfl (by decide)
        have er := qa_ri (qa_e rfl h)
        subst er
        have e0 : ma_8_3 a1 σ = ((m6 83 0), m6) := by exact Eq.trans (if_neg c1) (Eq.trans (if_neg c3) (Eq.trans (if_pos c5) (Eq.trans (qa_ie em6) (rfl))))
        rw [e0]
        exact ⟨rfl, hM, es⟩
      · replace h := qa_iff (q := 30) (qa_e rfl h) rfl (qa_F_lt c5)
        replace h := qa_aload (n := 0) (q := 31) (qa_e rfl h) rfl g0
        replace h := qa_push (z := (-6 : Int32)) (q := 33) (qa_e rfl h) rfl (by decide)
        obtain ⟨r7, er7⟩ : ∃ x, x = (ma_9_3 (-6 : Int32) σ) := ⟨_, rfl⟩
        obtain ⟨M, h, hM, es⟩ := qa_c1 (y := 9) (as := [.ref 3, .int ((-6 : Int32))]) (rest := []) (i := .invokevirtual 9) (q := 36) (qa_e rfl h) (Or.inl rfl) rfl rfl (by decide) rfl (fun r hc => mb_9_3 hM es hc)
        rw [← er7] at h es
        have er := qa_ri (qa_e rfl h)
        subst er
        have e0 : ma_8_3 a1 σ = (r7.1, r7.2) := by exact Eq.trans (if_neg c1) (Eq.trans (if_neg c3) (Eq.trans (if_neg c5) (Eq.trans (qa_ie er7) (rfl))))
        rw [e0]
        exact ⟨rfl, hM, es⟩
noncomputable def mc_12_50_4_p63 (N : Nat) (s : Int32 × qa_S) : (Int32 × qa_S) ⊕ (Int32 × qa_S) :=
  if s.1 < (7 : Int32) then
    qa_in (qa_cp s.2 (9 + s.1.toNatClampNeg) 0 (55 + s.1.toNatClampNeg) 0 4) fun m2 =>
    .inl ((s.1 + (1 : Int32)), m2)
  else
    .inr (s.1, s.2)
theorem md_12_50_4_p63 {N F : Nat} {r : Option Value × q4_M} (hN : F ≤ N) : ∀ f n, f ≤ n → f ≤ F → ∀ (s : Int32 × qa_S) (lv : List (Nat × Value)) (M : q4_M), qa_O M → qa_s M = s.2 → q4_get lv 0 = some (.ref 50) → q4_get lv 1 = some (.ref 4) → q4_get lv 2 = some (.int (s.1)) → q4_run f 12 63 lv [] M 0 0 = some r → ∃ lv M, q4_run F 12 93 lv [] M 0 0 = some r ∧ qa_O M ∧ qa_s M = (qa_wh (fun s => s) (mc_12_50_4_p63 N) n s).2 ∧ q4_get lv 0 = some (.ref 50) ∧ q4_get lv 1 = some (.ref 4) := by
  intro f
  induction f with
  | zero => intro n _ _ s lv M hM es _ _ _ h; cases h
  | succ f ih =>
    intro n hn hF s lv M hM es g0 g1 g2 h
    obtain ⟨n, rfl⟩ : ∃ n1, n = n1 + 1 := ⟨n - 1, by omega⟩
    replace hn : f ≤ n := Nat.le_of_succ_le_succ hn
    have hN := Nat.le_trans (Nat.le_of_succ_le hF) hN
    replace h := qa_iload (n := 2) (q := 64) (qa_d rfl h) rfl g2
    replace h := qa_push (z := (7 : Int32)) (q := 66) (qa_e rfl h) rfl (by decide)
    by_cases c1 : s.1 < (7 : Int32)
    · replace h := qa_iff (q := 69) (qa_e rfl h) rfl (qa_F_ge c1)
      replace h := qa_aload (n := 1) (q := 70) (qa_e rfl h) rfl g1
      replace h := qa_gr (b := 8) (j := 5) (q := 73) (qa_e rfl h) rfl hM rfl (by decide)
      replace h := qa_iload (n := 2) (q := 74) (qa_e rfl h) rfl g2
      replace h := qa_aaload (b := 9) (jn := s.1.toNatClampNeg) (q := 75) (qa_e rfl h) rfl hM rfl (by decide) (by decide +kernel)
      replace h := qa_push (z := (0 : Int32)) (q := 76) (qa_e rfl h) rfl (by decide)
      replace h := qa_aload (n := 0) (q := 77) (qa_e rfl h) rfl g0
      replace h := qa_gr (b := 54) (j := 5) (q := 80) (qa_e rfl h) rfl hM rfl (by decide)
      replace h := qa_iload (n := 2) (q := 81) (qa_e rfl h) rfl g2
      replace h := qa_aaload (b := 55) (jn := s.1.toNatClampNeg) (q := 82) (qa_e rfl h) rfl hM rfl (by decide) (by decide +kernel)
      replace h := qa_push (z := (0 : Int32)) (q := 83) (qa_e rfl h) rfl (by decide)
      replace h := qa_push (z := (4 : Int32)) (q := 84) (qa_e rfl h) rfl (by decide)
      obtain ⟨m2, em2⟩ : ∃ x, x = qa_cp s.2 (9 + s.1.toNatClampNeg) 0 (55 + s.1.toNatClampNeg) 0 4 := ⟨_, rfl⟩
      obtain ⟨M, h, hM, es⟩ := qa_ac (sn := 0) (dn := 0) (nn := 4) (q := 87) (qa_e rfl h) rfl hM es (by decide) (by decide) (by decide)
      rw [← em2] at es
      obtain ⟨lv, h, g, T⟩ := qa_iinc (n := 2) (z := (1 : Int32)) (q := 90) (qa_e rfl h) rfl (by decide) g2
      replace g0 := T _ _ g0 (by decide) (Or.inr rfl)
      replace g1 := T _ _ g1 (by decide) (Or.inr rfl)
      replace g2 := g
      clear g T
      replace h := qa_goto (q := 63) (qa_e rfl h) rfl
      have e0 : mc_12_50_4_p63 N s = .inl ((s.1 + (1 : Int32)), m2) := by exact Eq.trans (if_pos c1) (Eq.trans (qa_ie em2) (rfl))
      rw [qa_whl e0]
      exact ih n hn (Nat.le_of_succ_le hF) ((s.1 + (1 : Int32)), m2) _ _ hM es g0 g1 g2 h
    · replace h := qa_ift (q := 93) (qa_e rfl h) rfl (qa_T_ge c1)
      have e0 : mc_12_50_4_p63 N s = .inr (s.1, s.2) := by exact Eq.trans (if_neg c1) (rfl)
      rw [qa_whr e0]
      exact ⟨_, _, q61_mono f F _ _ _ _ _ _ _ _ (Nat.le_of_succ_le hF) h, hM, es, g0, g1⟩
/-- BuriedBySevens$Cellar, become, (LBuriedBySevens$Cellar;)V -/
noncomputable def ma_12_50_4 (N : Nat) (σ : qa_S) : qa_S :=
  qa_in (qa_u σ 50 0 (σ 4 0)) fun m1 =>
  qa_in (qa_u m1 50 1 (m1 4 1)) fun m2 =>
  qa_in (qa_cp m2 5 0 51 0 7) fun m3 =>
  qa_in (qa_cp m3 6 0 52 0 7) fun m4 =>
  qa_in (qa_cp m4 7 0 53 0 7) fun m5 =>
  qa_in ((qa_wh (fun s => s) (mc_12_50_4_p63 N) N ((0 : Int32), m5))) fun r6 =>
  qa_in (qa_cp r6.2 24 0 70 0 6) fun m7 =>
  qa_in (qa_cp m7 25 0 71 0 6) fun m8 =>
  qa_in (qa_cp m8 26 0 72 0 6) fun m9 =>
  m9
theorem mb_12_50_4 {f N : Nat} (hN : f ≤ N) {M : q4_M} {r : Option Value × q4_M} {σ : qa_S} (hM : qa_O M) (es : qa_s M = σ) (h : q4_run f 12 0 (lv_args 0 [.ref 50, .ref 4]) [] M 0 0 = some r) : r.1 = none ∧ qa_O r.2 ∧ qa_s r.2 = (ma_12_50_4 N σ) := by
  obtain ⟨lv, el⟩ : ∃ l, l = lv_args 0 [.ref 50, .ref 4] := ⟨_, rfl⟩
  have g0 : q4_get lv 0 = some (.ref 50) := by rw [el]; rfl
  have g1 : q4_get lv 1 = some (.ref 4) := by rw [el]; rfl
  rw [← el] at h
  clear el
  replace h := qa_aload (n := 0) (q := 1) (qa_e rfl h) rfl g0
  replace h := qa_aload (n := 1) (q := 2) (qa_e rfl h) rfl g1
  replace h := qa_gi (j := 0) (q := 5) (qa_e rfl h) rfl hM es rfl (by decide)
  obtain ⟨m1, em1⟩ : ∃ x, x = qa_u σ 50 0 (σ 4 0) := ⟨_, rfl⟩
  obtain ⟨M, h, hM, es⟩ := qa_pf (j := 0) (q := 8) (qa_e rfl h) rfl hM es rfl (by decide)
  rw [← em1] at es
  replace h := qa_aload (n := 0) (q := 9) (qa_e rfl h) rfl g0
  replace h := qa_aload (n := 1) (q := 10) (qa_e rfl h) rfl g1
  replace h := qa_gi (j := 1) (q := 13) (qa_e rfl h) rfl hM es rfl (by decide)
  obtain ⟨m2, em2⟩ : ∃ x, x = qa_u m1 50 1 (m1 4 1) := ⟨_, rfl⟩
  obtain ⟨M, h, hM, es⟩ := qa_pf (j := 1) (q := 16) (qa_e rfl h) rfl hM es rfl (by decide)
  rw [← em2] at es
  replace h := qa_aload (n := 1) (q := 17) (qa_e rfl h) rfl g1
  replace h := qa_gr (b := 5) (j := 2) (q := 20) (qa_e rfl h) rfl hM rfl (by decide)
  replace h := qa_push (z := (0 : Int32)) (q := 21) (qa_e rfl h) rfl (by decide)
  replace h := qa_aload (n := 0) (q := 22) (qa_e rfl h) rfl g0
  replace h := qa_gr (b := 51) (j := 2) (q := 25) (qa_e rfl h) rfl hM rfl (by decide)
  replace h := qa_push (z := (0 : Int32)) (q := 26) (qa_e rfl h) rfl (by decide)
  replace h := qa_push (z := (7 : Int32)) (q := 28) (qa_e rfl h) rfl (by decide)
  obtain ⟨m3, em3⟩ : ∃ x, x = qa_cp m2 5 0 51 0 7 := ⟨_, rfl⟩
  obtain ⟨M, h, hM, es⟩ := qa_ac (sn := 0) (dn := 0) (nn := 7) (q := 31) (qa_e rfl h) rfl hM es (by decide) (by decide) (by decide)
  rw [← em3] at es
  replace h := qa_aload (n := 1) (q := 32) (qa_e rfl h) rfl g1
  replace h := qa_gr (b := 6) (j := 3) (q := 35) (qa_e rfl h) rfl hM rfl (by decide)
  replace h := qa_push (z := (0 : Int32)) (q := 36) (qa_e rfl h) rfl (by decide)
  replace h := qa_aload (n := 0) (q := 37) (qa_e rfl h) rfl g0
  replace h := qa_gr (b := 52) (j := 3) (q := 40) (qa_e rfl h) rfl hM rfl (by decide)
  replace h := qa_push (z := (0 : Int32)) (q := 41) (qa_e rfl h) rfl (by decide)
  replace h := qa_push (z := (7 : Int32)) (q := 43) (qa_e rfl h) rfl (by decide)
  obtain ⟨m4, em4⟩ : ∃ x, x = qa_cp m3 6 0 52 0 7 := ⟨_, rfl⟩
  obtain ⟨M, h, hM, es⟩ := qa_ac (sn := 0) (dn := 0) (nn := 7) (q := 46) (qa_e rfl h) rfl hM es (by decide) (by decide) (by decide)
  rw [← em4] at es
  replace h := qa_aload (n := 1) (q := 47) (qa_e rfl h) rfl g1
  replace h := qa_gr (b := 7) (j := 4) (q := 50) (qa_e rfl h) rfl hM rfl (by decide)
  replace h := qa_push (z := (0 : Int32)) (q := 51) (qa_e rfl h) rfl (by decide)
  replace h := qa_aload (n := 0) (q := 52) (qa_e rfl h) rfl g0
  replace h := qa_gr (b := 53) (j := 4) (q := 55) (qa_e rfl h) rfl hM rfl (by decide)
  replace h := qa_push (z := (0 : Int32)) (q := 56) (qa_e rfl h) rfl (by decide)
  replace h := qa_push (z := (7 : Int32)) (q := 58) (qa_e rfl h) rfl (by decide)
  obtain ⟨m5, em5⟩ : ∃ x, x = qa_cp m4 7 0 53 0 7 := ⟨_, rfl⟩
  obtain ⟨M, h, hM, es⟩ := qa_ac (sn := 0) (dn := 0) (nn := 7) (q := 61) (qa_e rfl h) rfl hM es (by decide) (by decide) (by decide)
  rw [← em5] at es
  replace h := qa_push (z := (0 : Int32)) (q := 62) (qa_e rfl h) rfl (by decide)
  obtain ⟨lv, h, g, T⟩ := qa_istore (n := 2) (q := 63) (qa_e rfl h) rfl
  replace g0 := T _ _ g0 (by decide) (Or.inr rfl)
  replace g1 := T _ _ g1 (by decide) (Or.inr rfl)
  have g2 := g
  clear g T
  obtain ⟨r6, er6⟩ : ∃ x, x = (qa_wh (fun s => s) (mc_12_50_4_p63 N) N ((0 : Int32), m5)) := ⟨_, rfl⟩
  have L := md_12_50_4_p63 (F := f) (N := N) (r := r) hN f N hN (Nat.le_refl f) ((0 : Int32), m5) _ _ hM es g0 g1 g2 h
  rw [← er6] at L
  obtain ⟨lv, M, h, hM, es, g0, g1⟩ := L
  replace h := qa_aload (n := 1) (q := 94) (qa_e rfl h) rfl g1
  replace h := qa_gr (b := 24) (j := 7) (q := 97) (qa_e rfl h) rfl hM rfl (by decide)
  replace h := qa_push (z := (0 : Int32)) (q := 98) (qa_e rfl h) rfl (by decide)
  replace h := qa_aload (n := 0) (q := 99) (qa_e rfl h) rfl g0
  replace h := qa_gr (b := 70) (j := 7) (q := 102) (qa_e rfl h) rfl hM rfl (by decide)
  replace h := qa_push (z := (0 : Int32)) (q := 103) (qa_e rfl h) rfl (by decide)
  replace h := qa_push (z := (6 : Int32)) (q := 105) (qa_e rfl h) rfl (by decide)
  obtain ⟨m7, em7⟩ : ∃ x, x = qa_cp r6.2 24 0 70 0 6 := ⟨_, rfl⟩
  obtain ⟨M, h, hM, es⟩ := qa_ac (sn := 0) (dn := 0) (nn := 6) (q := 108) (qa_e rfl h) rfl hM es (by decide) (by decide) (by decide)
  rw [← em7] at es
  replace h := qa_aload (n := 1) (q := 109) (qa_e rfl h) rfl g1
  replace h := qa_gr (b := 25) (j := 8) (q := 112) (qa_e rfl h) rfl hM rfl (by decide)
  replace h := qa_push (z := (0 : Int32)) (q := 113) (qa_e rfl h) rfl (by decide)
  replace h := qa_aload (n := 0) (q := 114) (qa_e rfl h) rfl g0
  replace h := qa_gr (b := 71) (j := 8) (q := 117) (qa_e rfl h) rfl hM rfl (by decide)
  replace h := qa_push (z := (0 : Int32)) (q := 118) (qa_e rfl h) rfl (by decide)
  replace h := qa_push (z := (6 : Int32)) (q := 120) (qa_e rfl h) rfl (by decide)
  obtain ⟨m8, em8⟩ : ∃ x, x = qa_cp m7 25 0 71 0 6 := ⟨_, rfl⟩
  obtain ⟨M, h, hM, es⟩ := qa_ac (sn := 0) (dn := 0) (nn := 6) (q := 123) (qa_e rfl h) rfl hM es (by decide) (by decide) (by decide)
  rw [← em8] at es
  replace h := qa_aload (n := 1) (q := 124) (qa_e rfl h) rfl g1
  replace h := qa_gr (b := 26) (j := 9) (q := 127) (qa_e rfl h) rfl hM rfl (by decide)
  replace h := qa_push (z := (0 : Int32)) (q := 128) (qa_e rfl h) rfl (by decide)
  replace h := qa_aload (n := 0) (q := 129) (qa_e rfl h) rfl g0
  replace h := qa_gr (b := 72) (j := 9) (q := 132) (qa_e rfl h) rfl hM rfl (by decide)
  replace h := qa_push (z := (0 : Int32)) (q := 133) (qa_e rfl h) rfl (by decide)
  replace h := qa_push (z := (6 : Int32)) (q := 135) (qa_e rfl h) rfl (by decide)
  obtain ⟨m9, em9⟩ : ∃ x, x = qa_cp m8 26 0 72 0 6 := ⟨_, rfl⟩
  obtain ⟨M, h, hM, es⟩ := qa_ac (sn := 0) (dn := 0) (nn := 6) (q := 138) (qa_e rfl h) rfl hM es (by decide) (by decide) (by decide)
  rw [← em9] at es
  have er := qa_rv (qa_e rfl h)
  subst er
  have e0 : ma_12_50_4 N σ = m9 := by exact Eq.trans (qa_ie em1) (Eq.trans (qa_ie em2) (Eq.trans (qa_ie em3) (Eq.trans (qa_ie em4) (Eq.trans (qa_ie em5) (Eq.trans (qa_ie er6) (Eq.trans (qa_ie em7) (Eq.trans (qa_ie em8) (Eq.trans (qa_ie em9) (rfl)))))))))
  rw [e0]
  exact ⟨rfl, hM, es⟩
/-- BuriedBySevens$Text, lettersBehind, (I)I -/
noncomputable def ma_15 (a0 : Int32) : Int32 :=
  if a0 = (99 : Int32) then
    (7 : Int32)
  else
    if a0 = (109 : Int32) then
      (4 : Int32)
    else
      if a0 = (115 : Int32) then
        (3 : Int32)
      else
        if a0 = (116 : Int32) then
          (5 : Int32)
        else
          (0 : Int32)
theorem mb_15 {f : Nat} {M : q4_M} {r : Option Value × q4_M} {σ : qa_S} {a0 : Int32} (hM : qa_O M) (es : qa_s M = σ) (h : q4_run f 15 0 (lv_args 0 [.int (a0)]) [] M 0 0 = some r) : r.1 = some (.int ((ma_15 a0))) ∧ qa_O r.2 ∧ qa_s r.2 = σ := by
  obtain ⟨lv, el⟩ : ∃ l, l = lv_args 0 [.int (a0)] := ⟨_, rfl⟩
  have g0 : q4_get lv 0 = some (.int (a0)) := by rw [el]; rfl
  rw [← el] at h
  clear el
  replace h := qa_iload (n := 0) (q := 1) (qa_e rfl h) rfl g0
  by_cases c1 : a0 = (99 : Int32)
  · replace h := qa_ls (T := 44) (q := 44) (qa_e rfl h) (by rw [Op.lookupswitch.offset_cons, if_pos (qa_sp c1 (by decide))]) rfl
    replace h := qa_push (z := (7 : Int32)) (q := 46) (qa_e rfl h) rfl (by decide)
    have er := qa_ri (qa_e rfl h)
    subst er
    have e0 : ma_15 a0 = (7 : Int32) := by exact Eq.trans (if_pos c1) (rfl)
    rw [e0]
    exact ⟨rfl, hM, es⟩
  · by_cases c2 : a0 = (109 : Int32)
    · replace h := qa_ls (T := 51) (q := 51) (qa_e rfl h) (by rw [Op.lookupswitch.offset_cons, if_neg (qa_sn c1 (by decide))]; rw [Op.lookupswitch.offset_cons, if_pos (qa_sp c2 (by decide))]) rfl
      replace h := qa_push (z := (4 : Int32)) (q := 52) (qa_e rfl h) rfl (by decide)
      have er := qa_ri (qa_e rfl h)
      subst er
      have e0 : ma_15 a0 = (4 : Int32) := by exact Eq.trans (if_neg c1) (Eq.trans (if_pos c2) (rfl))
      rw [e0]
      exact ⟨rfl, hM, es⟩
    · by_cases c3 : a0 = (115 : Int32)
      · replace h := qa_ls (T := 47) (q := 47) (qa_e rfl h) (by rw [Op.lookupswitch.offset_cons, if_neg (qa_sn c1 (by decide))]; rw [Op.lookupswitch.offset_cons, if_neg (qa_sn c2 (by decide))]; rw [Op.lookupswitch.offset_cons, if_pos (qa_sp c3 (by decide))]) rfl
        replace h := qa_push (z := (3 : Int32)) (q := 48) (qa_e rfl h) rfl (by decide)
        have er := qa_ri (qa_e rfl h)
        subst er
        have e0 : ma_15 a0 = (3 : Int32) := by exact Eq.trans (if_neg c1) (Eq.trans (if_neg c2) (Eq.trans (if_pos c3) (rfl)))
        rw [e0]
        exact ⟨rfl, hM, es⟩
      · by_cases c4 : a0 = (116 : Int32)
        · replace h := qa_ls (T := 49) (q := 49) (qa_e rfl h) (by rw [Op.lookupswitch.offset_cons, if_neg (qa_sn c1 (by decide))]; rw [Op.lookupswitch.offset_cons, if_neg (qa_sn c2 (by decide))]; rw [Op.lookupswitch.offset_cons, if_neg (qa_sn c3 (by decide))]; rw [Op.lookupswitch.offset_cons, if_pos (qa_sp c4 (by decide))]) rfl
          replace h := qa_push (z := (5 : Int32)) (q := 50) (qa_e rfl h) rfl (by decide)
          have er := qa_ri (qa_e rfl h)
          subst er
          have e0 : ma_15 a0 = (5 : Int32) := by exact Eq.trans (if_neg c1) (Eq.trans (if_neg c2) (Eq.trans (if_neg c3) (Eq.trans (if_pos c4) (rfl))))
          rw [e0]
          exact ⟨rfl, hM, es⟩
        · replace h := qa_ls (T := 53) (q := 53) (qa_e rfl h) (by rw [Op.lookupswitch.offset_cons, if_neg (qa_sn c1 (by decide))]; rw [Op.lookupswitch.offset_cons, if_neg (qa_sn c2 (by decide))]; rw [Op.lookupswitch.offset_cons, if_neg (qa_sn c3 (by decide))]; rw [Op.lookupswitch.offset_cons, if_neg (qa_sn c4 (by decide))]; rfl) rfl
          replace h := qa_push (z := (0 : Int32)) (q := 54) (qa_e rfl h) rfl (by decide)
          have er := qa_ri (qa_e rfl h)
          subst er
          have e0 : ma_15 a0 = (0 : Int32) := by exact Eq.trans (if_neg c1) (Eq.trans (if_neg c2) (Eq.trans (if_neg c3) (Eq.trans (if_neg c4) (rfl))))
          rw [e0]
          exact ⟨rfl, hM, es⟩
noncomputable def mc_14_83_p4 (N : Nat) (σ : qa_S) (s : Int32 × Int32) : (Int32 × Int32) ⊕ ((Int32) ⊕ (Int32 × Int32)) :=
  if s.1 < (σ 83 0) then
    if s.2 = (0 : Int32) then
      if (ma_15 (σ 84 s.1.toNatClampNeg)) = (0 : Int32) then
        .inr (.inl s.1)
      else
        .inl ((s.1 + (1 : Int32)), (ma_15 (σ 84 s.1.toNatClampNeg)))
    else
      if (if s.2 = (1 : Int32) then (if (σ 84 s.1.toNatClampNeg) = (59 : Int32) then (1 : Int32) else (0 : Int32)) else (if (σ 84 s.1.toNatClampNeg) < (48 : Int32) then (0 : Int32) else (if (57 : Int32) < (σ 84 s.1.toNatClampNeg) then (0 : Int32) else (1 : Int32)))) = (0 : Int32) then
        .inr (.inl s.1)
      else
        .inl ((s.1 + (1 : Int32)), (s.2 + (-1 : Int32)))
  else
    .inr (.inr (s.1, s.2))
theorem md_14_83_p4 {N F : Nat} {r : Option Value × q4_M} {σ : qa_S} (hN : F ≤ N) : ∀ f n, f ≤ n → f ≤ F → ∀ (s : Int32 × Int32) (lv : List (Nat × Value)) (M : q4_M), qa_O M → qa_s M = σ → q4_get lv 0 = some (.ref 83) → q4_get lv 1 = some (.int (s.2)) → q4_get lv 2 = some (.int (s.1)) → q4_run f 14 4 lv [] M 0 0 = some r → (∀ b, (qa_wh (fun s => .inr s) (mc_14_83_p4 N σ) n s) = .inl b → r.1 = some (.int (b)) ∧ qa_O r.2 ∧ qa_s r.2 = σ) ∧ (∀ b, (qa_wh (fun s => .inr s) (mc_14_83_p4 N σ) n s) = .inr b → ∃ lv M, q4_run F 14 88 lv [] M 0 0 = some r ∧ qa_O M ∧ qa_s M = σ ∧ q4_get lv 0 = some (.ref 83) ∧ q4_get lv 1 = some (.int (b.2))) := by
  intro f
  induction f with
  | zero => intro n _ _ s lv M hM es _ _ _ h; cases h
  | succ f ih =>
    intro n hn hF s lv M hM es g0 g1 g2 h
    obtain ⟨n, rfl⟩ : ∃ n1, n = n1 + 1 := ⟨n - 1, by omega⟩
    replace hn : f ≤ n := Nat.le_of_succ_le_succ hn
    have hN := Nat.le_trans (Nat.le_of_succ_le hF) hN
    replace h := qa_iload (n := 2) (q := 5) (qa_d rfl h) rfl g2
    replace h := qa_aload (n := 0) (q := 6) (qa_e rfl h) rfl g0
    replace h := qa_gi (j := 0) (q := 9) (qa_e rfl h) rfl hM es rfl (by decide)
    by_cases c1 : s.1 < (σ 83 0)
    · replace h := qa_iff (q := 12) (qa_e rfl h) rfl (qa_F_ge c1)
      replace h := qa_aload (n := 0) (q := 13) (qa_e rfl h) rfl g0
      replace h := qa_gr (b := 84) (j := 1) (q := 16) (qa_e rfl h) rfl hM rfl (by decide)
      replace h := qa_iload (n := 2) (q := 17) (qa_e rfl h) rfl g2
      replace h := qa_iaload (jn := s.1.toNatClampNeg) (q := 18) (qa_e rfl h) rfl hM es rfl
      obtain ⟨lv, h, g, T⟩ := qa_istore (n := 3) (q := 19) (qa_e rfl h) rfl
      replace g0 := T _ _ g0 (by decide) (Or.inr rfl)
      replace g1 := T _ _ g1 (by decide) (Or.inr rfl)
      replace g2 := T _ _ g2 (by decide) (Or.inr rfl)
      have g3 := g
      clear g T
      replace h := qa_iload (n := 1) (q := 20) (qa_e rfl h) rfl g1
      by_cases c2 : s.2 = (0 : Int32)
      · replace h := qa_icf (q := 23) (qa_e rfl h) rfl (qa_F_ne c2)
        replace h := qa_iload (n := 3) (q := 24) (qa_e rfl h) rfl g3
        obtain ⟨M, h, hM, es⟩ := qa_c1 (y := 15) (as := [.int ((σ 84 s.1.toNatClampNeg))]) (rest := []) (i := .invokestatic 15) (q := 27) (qa_e rfl h) (Or.inr rfl) rfl rfl (by decide) rfl (fun r hc => mb_15 hM es hc)
        obtain ⟨lv, h, g, T⟩ := qa_istore (n := 1) (q := 28) (qa_e rfl h) rfl
        replace g0 := T _ _ g0 (by decide) (Or.inr rfl)
        replace g2 := T _ _ g2 (by decide) (Or.inr rfl)
        have g1 := g
        clear g T
        replace h := qa_iload (n := 1) (q := 29) (qa_e rfl h) rfl g1
        by_cases c3 : (ma_15 (σ 84 s.1.toNatClampNeg)) = (0 : Int32)
        · replace h := qa_icf (q := 32) (qa_e rfl h) rfl (qa_F_ne c3)
          replace h := qa_iload (n := 2) (q := 33) (qa_e rfl h) rfl g2
          have er := qa_ri (qa_e rfl h)
          subst er
          have e0 : mc_14_83_p4 N σ s = .inr (.inl s.1) := by exact Eq.trans (if_pos c1) (Eq.trans (if_pos c2) (Eq.trans (if_pos c3) (rfl)))
          rw [qa_whr e0]
          exact ⟨fun b hb => (by have e := Sum.inl.inj hb; subst e; exact ⟨rfl, hM, es⟩), fun b hb => nomatch hb⟩
        · replace h := qa_ict (q := 82) (qa_e rfl h) rfl (qa_T_ne c3)
          obtain ⟨lv, h, g, T⟩ := qa_iinc (n := 2) (z := (1 : Int32)) (q := 85) (qa_e rfl h) rfl (by decide) g2
          replace g0 := T _ _ g0 (by decide) (Or.inr rfl)
          replace g1 := T _ _ g1 (by decide) (Or.inr rfl)
          replace g2 := g
          clear g T
          replace h := qa_goto (q := 4) (qa_e rfl h) rfl
          have e0 : mc_14_83_p4 N σ s = .inl ((s.1 + (1 : Int32)), (ma_15 (σ 84 s.1.toNatClampNeg))) := by exact Eq.trans (if_pos c1) (Eq.trans (if_pos c2) (Eq.trans (if_neg c3) (rfl)))
          rw [qa_whl e0]
          exact ih n hn (Nat.le_of_succ_le hF) ((s.1 + (1 : Int32)), (ma_15 (σ 84 s.1.toNatClampNeg))) _ _ hM es g0 g1 g2 h
      · replace h := qa_ict (q := 34) (qa_e rfl h) rfl (qa_T_ne c2)
        replace h := qa_iload (n := 1) (q := 35) (qa_e rfl h) rfl g1
        replace h := qa_push (z := (1 : Int32)) (q := 36) (qa_e rfl h) rfl (by decide)
        obtain ⟨lv, M, h, hM, es, g0, g1, g2⟩ : ∃ lv M, q4_run f 14 70 lv [.int ((if s.2 = (1 : Int32) then (if (σ 84 s.1.toNatClampNeg) = (59 : Int32) then (1 : Int32) else (0 : Int32)) else (if (σ 84 s.1.toNatClampNeg) < (48 : Int32) then (0 : Int32) else (if (57 : Int32) < (σ 84 s.1.toNatClampNeg) then (0 : Int32) else (1 : Int32)))))] M 0 0 = some r ∧ qa_O M ∧ qa_s M = σ ∧ q4_get lv 0 = some (.ref 83) ∧ q4_get lv 1 = some (.int (s.2)) ∧ q4_get lv 2 = some (.int (s.1)) := by
          by_cases c4 : s.2 = (1 : Int32)
          · replace h := qa_iff (q := 39) (qa_e rfl h) rfl (qa_F_ne c4)
            replace h := qa_iload (n := 3) (q := 40) (qa_e rfl h) rfl g3
            replace h := qa_push (z := (59 : Int32)) (q := 42) (qa_e rfl h) rfl (by decide)
            obtain ⟨lv, M, h, hM, es, g0, g1, g2⟩ : ∃ lv M, q4_run f 14 70 lv [.int ((if (σ 84 s.1.toNatClampNeg) = (59 : Int32) then (1 : Int32) else (0 : Int32)))] M 0 0 = some r ∧ qa_O M ∧ qa_s M = σ ∧ q4_get lv 0 = some (.ref 83) ∧ q4_get lv 1 = some (.int (s.2)) ∧ q4_get lv 2 = some (.int (s.1)) := by
              by_cases c5 : (σ 84 s.1.toNatClampNeg) = (59 : Int32)
              · replace h := qa_iff (q := 45) (qa_e rfl h) rfl (qa_F_ne c5)
                replace h := qa_push (z := (1 : Int32)) (q := 46) (qa_e rfl h) rfl (by decide)
                replace h := qa_goto (q := 70) (qa_e rfl h) rfl
                exact ⟨lv, M, (qa_hi1 c5 h), hM, es, g0, g1, g2⟩
              · replace h := qa_ift (q := 49) (qa_e rfl h) rfl (qa_T_ne c5)
                replace h := qa_push (z := (0 : Int32)) (q := 50) (qa_e rfl h) rfl (by decide)
                replace h := qa_goto (q := 70) (qa_e rfl h) rfl
                exact ⟨lv, M, (qa_hi0 c5 h), hM, es, g0, g1, g2⟩
            exact ⟨lv, M, (qa_hi1 c4 h), hM, es, g0, g1, g2⟩
          · replace h := qa_ift (q := 53) (qa_e rfl h) rfl (qa_T_ne c4)
            replace h := qa_iload (n := 3) (q := 54) (qa_e rfl h) rfl g3
            replace h := qa_push (z := (48 : Int32)) (q := 56) (qa_e rfl h) rfl (by decide)
            obtain ⟨lv, M, h, hM, es, g0, g1, g2⟩ : ∃ lv M, q4_run f 14 70 lv [.int ((if (σ 84 s.1.toNatClampNeg) < (48 : Int32) then (0 : Int32) else (if (57 : Int32) < (σ 84 s.1.toNatClampNeg) then (0 : Int32) else (1 : Int32))))] M 0 0 = some r ∧ qa_O M ∧ qa_s M = σ ∧ q4_get lv 0 = some (.ref 83) ∧ q4_get lv 1 = some (.int (s.2)) ∧ q4_get lv 2 = some (.int (s.1)) := by
              by_cases c6 : (σ 84 s.1.toNatClampNeg) < (48 : Int32)
              · replace h := qa_ift (q := 69) (qa_e rfl h) rfl (qa_T_lt c6)
                replace h := qa_push (z := (0 : Int32)) (q := 70) (qa_e rfl h) rfl (by decide)
                exact ⟨lv, M, (qa_hi1 c6 h), hM, es, g0, g1, g2⟩
              · replace h := qa_iff (q := 59) (qa_e rfl h) rfl (qa_F_lt c6)
                replace h := qa_iload (n := 3) (q := 60) (qa_e rfl h) rfl g3
                replace h := qa_push (z := (57 : Int32)) (q := 62) (qa_e rfl h) rfl (by decide)
                obtain ⟨lv, M, h, hM, es, g0, g1, g2⟩ : ∃ lv M, q4_run f 14 70 lv [.int ((if (57 : Int32) < (σ 84 s.1.toNatClampNeg) then (0 : Int32) else (1 : Int32)))] M 0 0 = some r ∧ qa_O M ∧ qa_s M = σ ∧ q4_get lv 0 = some (.ref 83) ∧ q4_get lv 1 = some (.int (s.2)) ∧ q4_get lv 2 = some (.int (s.1)) := by
                  by_cases c7 : (57 : Int32) < (σ 84 s.1.toNatClampNeg)
                  · replace h := qa_ift (q := 69) (qa_e rfl h) rfl (qa_T_gt c7)
                    replace h := qa_push (z := (0 : Int32)) (q := 70) (qa_e rfl h) rfl (by decide)
                    exact ⟨lv, M, (qa_hi1 c7 h), hM, es, g0, g1, g2⟩
                  · replace h := qa_iff (q := 65) (qa_e rfl h) rfl (qa_F_gt c7)
                    replace h := qa_push (z := (1 : Int32)) (q := 66) (qa_e rfl h) rfl (by decide)
                    replace h := qa_goto (q := 70) (qa_e rfl h) rfl
                    exact ⟨lv, M, (qa_hi0 c7 h), hM, es, g0, g1, g2⟩
                exact ⟨lv, M, (qa_hi0 c6 h), hM, es, g0, g1, g2⟩
            exact ⟨lv, M, (qa_hi0 c4 h), hM, es, g0, g1, g2⟩
        obtain ⟨lv, h, g, T⟩ := qa_istore (n := 4) (q := 72) (qa_e rfl h) rfl
        replace g0 := T _ _ g0 (by decide) (Or.inr rfl)
        replace g1 := T _ _ g1 (by decide) (Or.inr rfl)
        replace g2 := T _ _ g2 (by decide) (Or.inr rfl)
        have g4 := g
        clear g T
        replace h := qa_iload (n := 4) (q := 74) (qa_e rfl h) rfl g4
        by_cases c8 : (if s.2 = (1 : Int32) then (if (σ 84 s.1.toNatClampNeg) = (59 : Int32) then (1 : Int32) else (0 : Int32)) else (if (σ 84 s.1.toNatClampNeg) < (48 : Int32) then (0 : Int32) else (if (57 : Int32) < (σ 84 s.1.toNatClampNeg) then (0 : Int32) else (1 : Int32)))) = (0 : Int32)
        · replace h := qa_icf (q := 77) (qa_e rfl h) rfl (qa_F_ne c8)
          replace h := qa_iload (n := 2) (q := 78) (qa_e rfl h) rfl g2
          have er := qa_ri (qa_e rfl h)
          subst er
          have e0 : mc_14_83_p4 N σ s = .inr (.inl s.1) := by exact Eq.trans (if_pos c1) (Eq.trans (if_neg c2) (Eq.trans (if_pos c8) (rfl)))
          rw [qa_whr e0]
          exact ⟨fun b hb => (by have e := Sum.inl.inj hb; subst e; exact ⟨rfl, hM, es⟩), fun b hb => nomatch hb⟩
        · replace h := qa_ict (q := 79) (qa_e rfl h) rfl (qa_T_ne c8)
          obtain ⟨lv, h, g, T⟩ := qa_iinc (n := 1) (z := (-1 : Int32)) (q := 82) (qa_e rfl h) rfl (by decide) g1
          replace g0 := T _ _ g0 (by decide) (Or.inr rfl)
          replace g2 := T _ _ g2 (by decide) (Or.inr rfl)
          replace g1 := g
          clear g T
          obtain ⟨lv, h, g, T⟩ := qa_iinc (n := 2) (z := (1 : Int32)) (q := 85) (qa_e rfl h) rfl (by decide) g2
          replace g0 := T _ _ g0 (by decide) (Or.inr rfl)
          replace g1 := T _ _ g1 (by decide) (Or.inr rfl)
          replace g2 := g
          clear g T
          replace h := qa_goto (q := 4) (qa_e rfl h) rfl
          have e0 : mc_14_83_p4 N σ s = .inl ((s.1 + (1 : Int32)), (s.2 + (-1 : Int32))) := by exact Eq.trans (if_pos c1) (Eq.trans (if_neg c2) (Eq.trans (if_neg c8) (rfl)))
          rw [qa_whl e0]
          exact ih n hn (Nat.le_of_succ_le hF) ((s.1 + (1 : Int32)), (s.2 + (-1 : Int32))) _ _ hM es g0 g1 g2 h
    · replace h := qa_ift (q := 88) (qa_e rfl h) rfl (qa_T_ge c1)
      have e0 : mc_14_83_p4 N σ s = .inr (.inr (s.1, s.2)) := by exact Eq.trans (if_neg c1) (rfl)
      rw [qa_whr e0]
      exact ⟨fun b hb => (nomatch hb), fun b hb => (by have e := Sum.inr.inj hb; subst e; exact ⟨_, _, q61_mono f F _ _ _ _ _ _ _ _ (Nat.le_of_succ_le hF) h, hM, es, g0, g1⟩)⟩
/-- BuriedBySevens$Text, wrongLetter, ()I -/
noncomputable def ma_14_83 (N : Nat) (σ : qa_S) : Int32 :=
  qa_in ((qa_wh (fun s => .inr s) (mc_14_83_p4 N σ) N ((0 : Int32), (0 : Int32)))) fun r1 =>
  qa_cs r1
    (fun b2 =>
      b2)
    (fun b2 =>
      (if (0 : Int32) < b2.2 then (σ 83 0) else (if (σ 83 0) = (0 : Int32) then (σ 83 0) else (-1 : Int32))))
theorem mb_14_83 {f N : Nat} (hN : f ≤ N) {M : q4_M} {r : Option Value × q4_M} {σ : qa_S} (hM : qa_O M) (es : qa_s M = σ) (h : q4_run f 14 0 (lv_args 0 [.ref 83]) [] M 0 0 = some r) : r.1 = some (.int ((ma_14_83 N σ))) ∧ qa_O r.2 ∧ qa_s r.2 = σ := by
  obtain ⟨lv, el⟩ : ∃ l, l = lv_args 0 [.ref 83] := ⟨_, rfl⟩
  have g0 : q4_get lv 0 = some (.ref 83) := by rw [el]; rfl
  rw [← el] at h
  clear el
  replace h := qa_push (z := (0 : Int32)) (q := 1) (qa_e rfl h) rfl (by decide)
  obtain ⟨lv, h, g, T⟩ := qa_istore (n := 1) (q := 2) (qa_e rfl h) rfl
  replace g0 := T _ _ g0 (by decide) (Or.inr rfl)
  have g1 := g
  clear g T
  replace h := qa_push (z := (0 : Int32)) (q := 3) (qa_e rfl h) rfl (by decide)
  obtain ⟨lv, h, g, T⟩ := qa_istore (n := 2) (q := 4) (qa_e rfl h) rfl
  replace g0 := T _ _ g0 (by decide) (Or.inr rfl)
  replace g1 := T _ _ g1 (by decide) (Or.inr rfl)
  have g2 := g
  clear g T
  obtain ⟨r1, er1⟩ : ∃ x, x = (qa_wh (fun s => .inr s) (mc_14_83_p4 N σ) N ((0 : Int32), (0 : Int32))) := ⟨_, rfl⟩
  have L := md_14_83_p4 (σ := σ) (F := f) (N := N) (r := r) hN f N hN (Nat.le_refl f) ((0 : Int32), (0 : Int32)) _ _ hM es g0 g1 g2 h
  rw [← er1] at L
  rcases qr1 : r1 with b2 | b2
  · obtain ⟨h, hM, es⟩ := L.1 b2 qr1
    have e0 : ma_14_83 N σ = b2 := by exact Eq.trans (qa_ie er1) (Eq.trans (qa_csl qr1 _ _) (rfl))
    rw [e0]
    exact ⟨h, hM, es⟩
  · obtain ⟨lv, M, h, hM, es, g0, g1⟩ := L.2 b2 qr1
    replace h := qa_iload (n := 1) (q := 89) (qa_e rfl h) rfl g1
    obtain ⟨lv, M, h, hM, es⟩ : ∃ lv M, q4_run f 14 107 lv [.int ((if (0 : Int32) < b2.2 then (σ 83 0) else (if (σ 83 0) = (0 : Int32) then (σ 83 0) else (-1 : Int32))))] M 0 0 = some r ∧ qa_O M ∧ qa_s M = σ := by
      by_cases c3 : (0 : Int32) < b2.2
      · replace h := qa_ict (q := 99) (qa_e rfl h) rfl (qa_T_gt c3)
        replace h := qa_aload (n := 0) (q := 100) (qa_e rfl h) rfl g0
        replace h := qa_gi (j := 0) (q := 103) (qa_e rfl h) rfl hM es rfl (by decide)
        replace h := qa_goto (q := 107) (qa_e rfl h) rfl
        exact ⟨lv, M, (qa_hi1 c3 h), hM, es⟩
      · replace h := qa_icf (q := 92) (qa_e rfl h) rfl (qa_F_gt c3)
        replace h := qa_aload (n := 0) (q := 93) (qa_e rfl h) rfl g0
        replace h := qa_gi (j := 0) (q := 96) (qa_e rfl h) rfl hM es rfl (by decide)
        obtain ⟨lv, M, h, hM, es⟩ : ∃ lv M, q4_run f 14 107 lv [.int ((if (σ 83 0) = (0 : Int32) then (σ 83 0) else (-1 : Int32)))] M 0 0 = some r ∧ qa_O M ∧ qa_s M = σ := by
          by_cases c4 : (σ 83 0) = (0 : Int32)
          · replace h := qa_icf (q := 99) (qa_e rfl h) rfl (qa_F_ne c4)
            replace h := qa_aload (n := 0) (q := 100) (qa_e rfl h) rfl g0
            replace h := qa_gi (j := 0) (q := 103) (qa_e rfl h) rfl hM es rfl (by decide)
            replace h := qa_goto (q := 107) (qa_e rfl h) rfl
            exact ⟨lv, M, (qa_hi1 c4 h), hM, es⟩
          · replace h := qa_ict (q := 106) (qa_e rfl h) rfl (qa_T_ne c4)
            replace h := qa_push (z := (-1 : Int32)) (q := 107) (qa_e rfl h) rfl (by decide)
            exact ⟨lv, M, (qa_hi0 c4 h), hM, es⟩
        exact ⟨lv, M, (qa_hi0 c3 h), hM, es⟩
    have er := qa_ri (qa_e rfl h)
    subst er
    have e0 : ma_14_83 N σ = (if (0 : Int32) < b2.2 then (σ 83 0) else (if (σ 83 0) = (0 : Int32) then (σ 83 0) else (-1 : Int32))) := by exact Eq.trans (qa_ie er1) (Eq.trans (qa_csr qr1 _ _) (rfl))
    rw [e0]
    exact ⟨rfl, hM, es⟩
/-- BuriedBySevens$Text, digit, (I)I -/
noncomputable def ma_18_83 (a1 : Int32) (σ : qa_S) : Int32 :=
  (if a1 < (σ 83 0) then ((σ 84 a1.toNatClampNeg) - (48 : Int32)) else (0 : Int32))
theorem mb_18_83 {f : Nat} {M : q4_M} {r : Option Value × q4_M} {σ : qa_S} {a1 : Int32} (hM : qa_O M) (es : qa_s M = σ) (h : q4_run f 18 0 (lv_args 0 [.ref 83, .int (a1)]) [] M 0 0 = some r) : r.1 = some (.int ((ma_18_83 a1 σ))) ∧ qa_O r.2 ∧ qa_s r.2 = σ := by
  obtain ⟨lv, el⟩ : ∃ l, l = lv_args 0 [.ref 83, .int (a1)] := ⟨_, rfl⟩
  have g0 : q4_get lv 0 = some (.ref 83) := by rw [el]; rfl
  have g1 : q4_get lv 1 = some (.int (a1)) := by rw [el]; rfl
  rw [← el] at h
  clear el
  replace h := qa_iload (n := 1) (q := 1) (qa_e rfl h) rfl g1
  replace h := qa_aload (n := 0) (q := 2) (qa_e rfl h) rfl g0
  replace h := qa_gi (j := 0) (q := 5) (qa_e rfl h) rfl hM es rfl (by decide)
  obtain ⟨lv, M, h, hM, es⟩ : ∃ lv M, q4_run f 18 21 lv [.int ((if a1 < (σ 83 0) then ((σ 84 a1.toNatClampNeg) - (48 : Int32)) else (0 : Int32)))] M 0 0 = some r ∧ qa_O M ∧ qa_s M = σ := by
    by_cases c1 : a1 < (σ 83 0)
    · replace h := qa_iff (q := 8) (qa_e rfl h) rfl (qa_F_ge c1)
      replace h := qa_aload (n := 0) (q := 9) (qa_e rfl h) rfl g0
      replace h := qa_gr (b := 84) (j := 1) (q := 12) (qa_e rfl h) rfl hM rfl (by decide)
      replace h := qa_iload (n := 1) (q := 13) (qa_e rfl h) rfl g1
      replace h := qa_iaload (jn := a1.toNatClampNeg) (q := 14) (qa_e rfl h) rfl hM es rfl
      replace h := qa_push (z := (48 : Int32)) (q := 16) (qa_e rfl h) rfl (by decide)
      replace h := qa_isub (q := 17) (qa_e rfl h) rfl
      replace h := qa_goto (q := 21) (qa_e rfl h) rfl
      exact ⟨lv, M, (qa_hi1 c1 h), hM, es⟩
    · replace h := qa_ift (q := 20) (qa_e rfl h) rfl (qa_T_ge c1)
      replace h := qa_push (z := (0 : Int32)) (q := 21) (qa_e rfl h) rfl (by decide)
      exact ⟨lv, M, (qa_hi0 c1 h), hM, es⟩
  have er := qa_ri (qa_e rfl h)
  subst er
  have e0 : ma_18_83 a1 σ = (if a1 < (σ 83 0) then ((σ 84 a1.toNatClampNeg) - (48 : Int32)) else (0 : Int32)) := by exact rfl
  rw [e0]
  exact ⟨rfl, hM, es⟩
/-- BuriedBySevens, isKind, (I)Z -/
noncomputable def ma_19 (a0 : Int32) : Int32 :=
  (if a0 < (0 : Int32) then (0 : Int32) else (if (5 : Int32) < a0 then (0 : Int32) else (1 : Int32)))
theorem mb_19 {f : Nat} {M : q4_M} {r : Option Value × q4_M} {σ : qa_S} {a0 : Int32} (hM : qa_O M) (es : qa_s M = σ) (h : q4_run f 19 0 (lv_args 0 [.int (a0)]) [] M 0 0 = some r) : r.1 = some (.int ((ma_19 a0))) ∧ qa_O r.2 ∧ qa_s r.2 = σ := by
  obtain ⟨lv, el⟩ : ∃ l, l = lv_args 0 [.int (a0)] := ⟨_, rfl⟩
  have g0 : q4_get lv 0 = some (.int (a0)) := by rw [el]; rfl
  rw [← el] at h
  clear el
  replace h := qa_iload (n := 0) (q := 1) (qa_e rfl h) rfl g0
  obtain ⟨lv, M, h, hM, es⟩ : ∃ lv M, q4_run f 19 14 lv [.int ((if a0 < (0 : Int32) then (0 : Int32) else (if (5 : Int32) < a0 then (0 : Int32) else (1 : Int32))))] M 0 0 = some r ∧ qa_O M ∧ qa_s M = σ := by
    by_cases c1 : a0 < (0 : Int32)
    · replace h := qa_ict (q := 13) (qa_e rfl h) rfl (qa_T_lt c1)
      replace h := qa_push (z := (0 : Int32)) (q := 14) (qa_e rfl h) rfl (by decide)
      exact ⟨lv, M, (qa_hi1 c1 h), hM, es⟩
    · replace h := qa_icf (q := 4) (qa_e rfl h) rfl (qa_F_lt c1)
      replace h := qa_iload (n := 0) (q := 5) (qa_e rfl h) rfl g0
      replace h := qa_push (z := (5 : Int32)) (q := 6) (qa_e rfl h) rfl (by decide)
      obtain ⟨lv, M, h, hM, es⟩ : ∃ lv M, q4_run f 19 14 lv [.int ((if (5 : Int32) < a0 then (0 : Int32) else (1 : Int32)))] M 0 0 = some r ∧ qa_O M ∧ qa_s M = σ := by
        by_cases c2 : (5 : Int32) < a0
        · replace h := qa_ift (q := 13) (qa_e rfl h) rfl (qa_T_gt c2)
          replace h := qa_push (z := (0 : Int32)) (q := 14) (qa_e rfl h) rfl (by decide)
          exact ⟨lv, M, (qa_hi1 c2 h), hM, es⟩
        · replace h := qa_iff (q := 9) (qa_e rfl h) rfl (qa_F_gt c2)
          replace h := qa_push (z := (1 : Int32)) (q := 10) (qa_e rfl h) rfl (by decide)
          replace h := qa_goto (q := 14) (qa_e rfl h) rfl
          exact ⟨lv, M, (qa_hi0 c2 h), hM, es⟩
      exact ⟨lv, M, (qa_hi0 c1 h), hM, es⟩
  have er := qa_ri (qa_e rfl h)
  subst er
  have e0 : ma_19 a0 = (if a0 < (0 : Int32) then (0 : Int32) else (if (5 : Int32) < a0 then (0 : Int32) else (1 : Int32))) := by exact rfl
  rw [e0]
  exact ⟨rfl, hM, es⟩
noncomputable def mc_17_83_50_p30 (N : Nat) (l2 : Int32) (l3 : Int32) (σ : qa_S) (s : Int32 × Int32) : (Int32 × Int32) ⊕ (Int32 × Int32) :=
  if s.1 < (4 : Int32) then
    .inl ((s.1 + (1 : Int32)), (((10 : Int32) * s.2) + (ma_18_83 ((l2 + (2 : Int32)) + s.1) σ)))
  else
    .inr (s.1, s.2)
theorem md_17_83_50_p30 {N F : Nat} {r : Option Value × q4_M} {l2 : Int32} {l3 : Int32} {σ : qa_S} (hN : F ≤ N) : ∀ f n, f ≤ n → f ≤ F → ∀ (s : Int32 × Int32) (lv : List (Nat × Value)) (M : q4_M), qa_O M → qa_s M = σ → q4_get lv 0 = some (.ref 83) → q4_get lv 1 = some (.ref 50) → q4_get lv 2 = some (.int (l2)) → q4_get lv 3 = some (.int (l3)) → q4_get lv 4 = some (.int (s.2)) → q4_get lv 5 = some (.int (s.1)) → q4_run f 17 30 lv [] M 0 0 = some r → ∃ lv M, q4_run F 17 60 lv [] M 0 0 = some r ∧ qa_O M ∧ qa_s M = σ ∧ q4_get lv 0 = some (.ref 83) ∧ q4_get lv 1 = some (.ref 50) ∧ q4_get lv 2 = some (.int (l2)) ∧ q4_get lv 3 = some (.int (l3)) ∧ q4_get lv 4 = some (.int ((qa_wh (fun s => s) (mc_17_83_50_p30 N l2 l3 σ) n s).2)) := by
  intro f
  induction f with
  | zero => intro n _ _ s lv M hM es _ _ _ _ _ _ h; cases h
  | succ f ih =>
    intro n hn hF s lv M hM es g0 g1 g2 g3 g4 g5 h
    obtain ⟨n, rfl⟩ : ∃ n1, n = n1 + 1 := ⟨n - 1, by omega⟩
    replace hn : f ≤ n := Nat.le_of_succ_le_succ hn
    have hN := Nat.le_trans (Nat.le_of_succ_le hF) hN
    replace h := qa_iload (n := 5) (q := 32) (qa_d rfl h) rfl g5
    replace h := qa_push (z := (4 : Int32)) (q := 33) (qa_e rfl h) rfl (by decide)
    by_cases c1 : s.1 < (4 : Int32)
    · replace h := qa_iff (q := 36) (qa_e rfl h) rfl (qa_F_ge c1)
      replace h := qa_push (z := (10 : Int32)) (q := 38) (qa_e rfl h) rfl (by decide)
      replace h := qa_iload (n := 4) (q := 40) (qa_e rfl h) rfl g4
      replace h := qa_imul (q := 41) (qa_e rfl h) rfl
      replace h := qa_aload (n := 0) (q := 42) (qa_e rfl h) rfl g0
      replace h := qa_iload (n := 2) (q := 43) (qa_e rfl h) rfl g2
      replace h := qa_push (z := (2 : Int32)) (q := 44) (qa_e rfl h) rfl (by decide)
      replace h := qa_iadd (q := 45) (qa_e rfl h) rfl
      replace h := qa_iload (n := 5) (q := 47) (qa_e rfl h) rfl g5
      replace h := qa_iadd (q := 48) (qa_e rfl h) rfl
      obtain ⟨M, h, hM, es⟩ := qa_c1 (y := 18) (as := [.ref 83, .int (((l2 + (2 : Int32)) + s.1))]) (rest := [.int (((10 : Int32) * s.2))]) (i := .invokevirtual 18) (q := 51) (qa_e rfl h) (Or.inl rfl) rfl rfl (by decide) rfl (fun r hc => mb_18_83 hM es hc)
      replace h := qa_iadd (q := 52) (qa_e rfl h) rfl
      obtain ⟨lv, h, g, T⟩ := qa_istore (n := 4) (q := 54) (qa_e rfl h) rfl
      replace g0 := T _ _ g0 (by decide) (Or.inr rfl)
      replace g1 := T _ _ g1 (by decide) (Or.inr rfl)
      replace g2 := T _ _ g2 (by decide) (Or.inr rfl)
      replace g3 := T _ _ g3 (by decide) (Or.inr rfl)
      replace g5 := T _ _ g5 (by decide) (Or.inr rfl)
      have g4 := g
      clear g T
      obtain ⟨lv, h, g, T⟩ := qa_iinc (n := 5) (z := (1 : Int32)) (q := 57) (qa_e rfl h) rfl (by decide) g5
      replace g0 := T _ _ g0 (by decide) (Or.inr rfl)
      replace g1 := T _ _ g1 (by decide) (Or.inr rfl)
      replace g2 := T _ _ g2 (by decide) (Or.inr rfl)
      replace g3 := T _ _ g3 (by decide) (Or.inr rfl)
      replace g4 := T _ _ g4 (by decide) (Or.inr rfl)
      replace g5 := g
      clear g T
      replace h := qa_goto (q := 30) (qa_e rfl h) rfl
      have e0 : mc_17_83_50_p30 N l2 l3 σ s = .inl ((s.1 + (1 : Int32)), (((10 : Int32) * s.2) + (ma_18_83 ((l2 + (2 : Int32)) + s.1) σ))) := by exact Eq.trans (if_pos c1) (rfl)
      rw [qa_whl e0]
      exact ih n hn (Nat.le_of_succ_le hF) ((s.1 + (1 : Int32)), (((10 : Int32) * s.2) + (ma_18_83 ((l2 + (2 : Int32)) + s.1) σ))) _ _ hM es g0 g1 g2 g3 g4 g5 h
    · replace h := qa_ift (q := 60) (qa_e rfl h) rfl (qa_T_ge c1)
      have e0 : mc_17_83_50_p30 N l2 l3 σ s = .inr (s.1, s.2) := by exact Eq.trans (if_neg c1) (rfl)
      rw [qa_whr e0]
      exact ⟨_, _, q61_mono f F _ _ _ _ _ _ _ _ (Nat.le_of_succ_le hF) h, hM, es, g0, g1, g2, g3, g4⟩
noncomputable def mc_20_50_p46 (N : Nat) (s : Int32 × Int32 × qa_S) : (Int32 × Int32 × qa_S) ⊕ (Int32 × Int32 × qa_S) :=
  if s.1 < (0 : Int32) then
    .inr (s.1, s.2.1, s.2.2)
  else
    qa_in (qa_u s.2.2 (55 + (s.2.2 50 0).toNatClampNeg) s.1.toNatClampNeg (s.2.1 - s.2.1 / (10 : Int32) * (10 : Int32))) fun m2 =>
    .inl ((s.1 + (-1 : Int32)), (s.2.1 / (10 : Int32)), m2)
theorem md_20_50_p46 {N F : Nat} {r : Option Value × q4_M} (hN : F ≤ N) : ∀ f n, f ≤ n → f ≤ F → ∀ (s : Int32 × Int32 × qa_S) (lv : List (Nat × Value)) (M : q4_M), qa_O M → qa_s M = s.2.2 → q4_get lv 0 = some (.ref 50) → q4_get lv 4 = some (.int (s.2.1)) → q4_get lv 5 = some (.int (s.1)) → q4_run f 20 46 lv [] M 0 0 = some r → ∃ lv M, q4_run F 20 81 lv [] M 0 0 = some r ∧ qa_O M ∧ qa_s M = (qa_wh (fun s => s) (mc_20_50_p46 N) n s).2.2 ∧ q4_get lv 0 = some (.ref 50) := by
  intro f
  induction f with
  | zero => intro n _ _ s lv M hM es _ _ _ h; cases h
  | succ f ih =>
    intro n hn hF s lv M hM es g0 g4 g5 h
    obtain ⟨n, rfl⟩ : ∃ n1, n = n1 + 1 := ⟨n - 1, by omega⟩
    replace hn : f ≤ n := Nat.le_of_succ_le_succ hn
    have hN := Nat.le_trans (Nat.le_of_succ_le hF) hN
    replace h := qa_iload (n := 5) (q := 48) (qa_d rfl h) rfl g5
    by_cases c1 : s.1 < (0 : Int32)
    · replace h := qa_ict (q := 81) (qa_e rfl h) rfl (qa_T_lt c1)
      have e0 : mc_20_50_p46 N s = .inr (s.1, s.2.1, s.2.2) := by exact Eq.trans (if_pos c1) (rfl)
      rw [qa_whr e0]
      exact ⟨_, _, q61_mono f F _ _ _ _ _ _ _ _ (Nat.le_of_succ_le hF) h, hM, es, g0⟩
    · replace h := qa_icf (q := 51) (qa_e rfl h) rfl (qa_F_lt c1)
      replace h := qa_aload (n := 0) (q := 52) (qa_e rfl h) rfl g0
      replace h := qa_gr (b := 54) (j := 5) (q := 55) (qa_e rfl h) rfl hM rfl (by decide)
      replace h := qa_aload (n := 0) (q := 56) (qa_e rfl h) rfl g0
      replace h := qa_gi (j := 0) (q := 59) (qa_e rfl h) rfl hM es rfl (by decide)
      replace h := qa_aaload (b := 55) (jn := (s.2.2 50 0).toNatClampNeg) (q := 60) (qa_e rfl h) rfl hM rfl (by decide) (by decide +kernel)
      replace h := qa_iload (n := 5) (q := 62) (qa_e rfl h) rfl g5
      replace h := qa_iload (n := 4) (q := 64) (qa_e rfl h) rfl g4
      replace h := qa_push (z := (10 : Int32)) (q := 66) (qa_e rfl h) rfl (by decide)
      replace h := qa_irem (q := 67) (qa_e rfl h) rfl
      obtain ⟨m2, em2⟩ : ∃ x, x = qa_u s.2.2 (55 + (s.2.2 50 0).toNatClampNeg) s.1.toNatClampNeg (s.2.1 - s.2.1 / (10 : Int32) * (10 : Int32)) := ⟨_, rfl⟩
      obtain ⟨M, h, hM, es⟩ := qa_iastore (jn := s.1.toNatClampNeg) (q := 68) (qa_e rfl h) rfl hM es rfl
      rw [← em2] at es
      replace h := qa_iload (n := 4) (q := 70) (qa_e rfl h) rfl g4
      replace h := qa_push (z := (10 : Int32)) (q := 72) (qa_e rfl h) rfl (by decide)
      replace h := qa_idiv (q := 73) (qa_e rfl h) rfl
      obtain ⟨lv, h, g, T⟩ := qa_istore (n := 4) (q := 75) (qa_e rfl h) rfl
      replace g0 := T _ _ g0 (by decide) (Or.inr rfl)
      replace g5 := T _ _ g5 (by decide) (Or.inr rfl)
      have g4 := g
      clear g T
      obtain ⟨lv, h, g, T⟩ := qa_iinc (n := 5) (z := (-1 : Int32)) (q := 78) (qa_e rfl h) rfl (by decide) g5
      replace g0 := T _ _ g0 (by decide) (Or.inr rfl)
      replace g4 := T _ _ g4 (by decide) (Or.inr rfl)
      replace g5 := g
      clear g T
      replace h := qa_goto (q := 46) (qa_e rfl h) rfl
      have e0 : mc_20_50_p46 N s = .inl ((s.1 + (-1 : Int32)), (s.2.1 / (10 : Int32)), m2) := by exact Eq.trans (if_neg c1) (Eq.trans (qa_ie em2) (rfl))
      rw [qa_whl e0]
      exact ih n hn (Nat.le_of_succ_le hF) ((s.1 + (-1 : Int32)), (s.2.1 / (10 : Int32)), m2) _ _ hM es g0 g4 g5 h
/-- BuriedBySevens$Cellar, addCask, (III)V -/
noncomputable def ma_20_50 (N : Nat) (a1 : Int32) (a2 : Int32) (a3 : Int32) (σ : qa_S) : qa_S :=
  if (σ 50 0) < (7 : Int32) then
    qa_in (qa_u σ 51 (σ 50 0).toNatClampNeg a1) fun m2 =>
    qa_in (qa_u m2 52 (m2 50 0).toNatClampNeg a2) fun m3 =>
    qa_in (qa_u m3 53 (m3 50 0).toNatClampNeg (0 : Int32)) fun m4 =>
    qa_in ((qa_wh (fun s => s) (mc_20_50_p46 N) N ((3 : Int32), a3, m4))) fun r5 =>
    qa_in (qa_u r5.2.2 50 0 ((r5.2.2 50 0) + (1 : Int32))) fun m6 =>
    m6
  else
    σ
theorem mb_20_50 {f N : Nat} (hN : f ≤ N) {M : q4_M} {r : Option Value × q4_M} {σ : qa_S} {a1 : Int32} {a2 : Int32} {a3 : Int32} (hM : qa_O M) (es : qa_s M = σ) (h : q4_run f 20 0 (lv_args 0 [.ref 50, .int (a1), .int (a2), .int (a3)]) [] M 0 0 = some r) : r.1 = none ∧ qa_O r.2 ∧ qa_s r.2 = (ma_20_50 N a1 a2 a3 σ) := by
  obtain ⟨lv, el⟩ : ∃ l, l = lv_args 0 [.ref 50, .int (a1), .int (a2), .int (a3)] := ⟨_, rfl⟩
  have g0 : q4_get lv 0 = some (.ref 50) := by rw [el]; rfl
  have g1 : q4_get lv 1 = some (.int (a1)) := by rw [el]; rfl
  have g2 : q4_get lv 2 = some (.int (a2)) := by rw [el]; rfl
  have g3 : q4_get lv 3 = some (.int (a3)) := by rw [el]; rfl
  rw [← el] at h
  clear el
  replace h := qa_aload (n := 0) (q := 1) (qa_e rfl h) rfl g0
  replace h := qa_gi (j := 0) (q := 4) (qa_e rfl h) rfl hM es rfl (by decide)
  replace h := qa_push (z := (7 : Int32)) (q := 6) (qa_e rfl h) rfl (by decide)
  by_cases c1 : (σ 50 0) < (7 : Int32)
  · replace h := qa_ift (q := 10) (qa_e rfl h) rfl (qa_T_lt c1)
    replace h := qa_aload (n := 0) (q := 11) (qa_e rfl h) rfl g0
    replace h := qa_gr (b := 51) (j := 2) (q := 14) (qa_e rfl h) rfl hM rfl (by decide)
    replace h := qa_aload (n := 0) (q := 15) (qa_e rfl h) rfl g0
    replace h := qa_gi (j := 0) (q := 18) (qa_e rfl h) rfl hM es rfl (by decide)
    replace h := qa_iload (n := 1) (q := 19) (qa_e rfl h) rfl g1
    obtain ⟨m2, em2⟩ : ∃ x, x = qa_u σ 51 (σ 50 0).toNatClampNeg a1 := ⟨_, rfl⟩
    obtain ⟨M, h, hM, es⟩ := qa_iastore (jn := (σ 50 0).toNatClampNeg) (q := 20) (qa_e rfl h) rfl hM es rfl
    rw [← em2] at es
    replace h := qa_aload (n := 0) (q := 21) (qa_e rfl h) rfl g0
    replace h := qa_gr (b := 52) (j := 3) (q := 24) (qa_e rfl h) rfl hM rfl (by decide)
    replace h := qa_aload (n := 0) (q := 25) (qa_e rfl h) rfl g0
    replace h := qa_gi (j := 0) (q := 28) (qa_e rfl h) rfl hM es rfl (by decide)
    replace h := qa_iload (n := 2) (q := 29) (qa_e rfl h) rfl g2
    obtain ⟨m3, em3⟩ : ∃ x, x = qa_u m2 52 (m2 50 0).toNatClampNeg a2 := ⟨_, rfl⟩
    obtain ⟨M, h, hM, es⟩ := qa_iastore (jn := (m2 50 0).toNatClampNeg) (q := 30) (qa_e rfl h) rfl hM es rfl
    rw [← em3] at es
    replace h := qa_aload (n := 0) (q := 31) (qa_e rfl h) rfl g0
    replace h := qa_gr (b := 53) (j := 4) (q := 34) (qa_e rfl h) rfl hM rfl (by decide)
    replace h := qa_aload (n := 0) (q := 35) (qa_e rfl h) rfl g0
    replace h := qa_gi (j := 0) (q := 38) (qa_e rfl h) rfl hM es rfl (by decide)
    replace h := qa_push (z := (0 : Int32)) (q := 39) (qa_e rfl h) rfl (by decide)
    obtain ⟨m4, em4⟩ : ∃ x, x = qa_u m3 53 (m3 50 0).toNatClampNeg (0 : Int32) := ⟨_, rfl⟩
    obtain ⟨M, h, hM, es⟩ := qa_iastore (jn := (m3 50 0).toNatClampNeg) (q := 40) (qa_e rfl h) rfl hM es rfl
    rw [← em4] at es
    replace h := qa_iload (n := 3) (q := 41) (qa_e rfl h) rfl g3
    obtain ⟨lv, h, g, T⟩ := qa_istore (n := 4) (q := 43) (qa_e rfl h) rfl
    replace g0 := T _ _ g0 (by decide) (Or.inr rfl)
    have g4 := g
    clear g T
    replace h := qa_push (z := (3 : Int32)) (q := 44) (qa_e rfl h) rfl (by decide)
    obtain ⟨lv, h, g, T⟩ := qa_istore (n := 5) (q := 46) (qa_e rfl h) rfl
    replace g0 := T _ _ g0 (by decide) (Or.inr rfl)
    replace g4 := T _ _ g4 (by decide) (Or.inr rfl)
    have g5 := g
    clear g T
    obtain ⟨r5, er5⟩ : ∃ x, x = (qa_wh (fun s => s) (mc_20_50_p46 N) N ((3 : Int32), a3, m4)) := ⟨_, rfl⟩
    have L := md_20_50_p46 (F := f) (N := N) (r := r) hN f N hN (Nat.le_refl f) ((3 : Int32), a3, m4) _ _ hM es g0 g4 g5 h
    rw [← er5] at L
    obtain ⟨lv, M, h, hM, es, g0⟩ := L
    replace h := qa_aload (n := 0) (q := 82) (qa_e rfl h) rfl g0
    replace h := qa_dupa (q := 83) (qa_e rfl h) rfl
    replace h := qa_gi (j := 0) (q := 86) (qa_e rfl h) rfl hM es rfl (by decide)
    replace h := qa_push (z := (1 : Int32)) (q := 87) (qa_e rfl h) rfl (by decide)
    replace h := qa_iadd (q := 88) (qa_e rfl h) rfl
    obtain ⟨m6, em6⟩ : ∃ x, x = qa_u r5.2.2 50 0 ((r5.2.2 50 0) + (1 : Int32)) := ⟨_, rfl⟩
    obtain ⟨M, h, hM, es⟩ := qa_pf (j := 0) (q := 91) (qa_e rfl h) rfl hM es rfl (by decide)
    rw [← em6] at es
    have er := qa_rv (qa_e rfl h)
    subst er
    have e0 : ma_20_50 N a1 a2 a3 σ = m6 := by exact Eq.trans (if_pos c1) (Eq.trans (qa_ie em2) (Eq.trans (qa_ie em3) (Eq.trans (qa_ie em4) (Eq.trans (qa_ie er5) (Eq.trans (qa_ie em6) (rfl))))))
    rw [e0]
    exact ⟨rfl, hM, es⟩
  · replace h := qa_iff (q := 9) (qa_e rfl h) rfl (qa_F_lt c1)
    have er := qa_rv (qa_e rfl h)
    subst er
    have e0 : ma_20_50 N a1 a2 a3 σ = σ := by exact Eq.trans (if_neg c1) (rfl)
    rw [e0]
    exact ⟨rfl, hM, es⟩
/-- BuriedBySevens$Text, caskComes, (LBuriedBySevens$Cellar;I)Z -/
noncomputable def ma_17_83_50 (N : Nat) (a2 : Int32) (σ : qa_S) : Int32 × qa_S :=
  if (ma_19 (ma_18_83 a2 σ)) = (0 : Int32) then
    ((0 : Int32), σ)
  else
    if (σ 50 0) < (7 : Int32) then
      qa_in ((qa_wh (fun s => s) (mc_17_83_50_p30 N a2 (ma_18_83 a2 σ) σ) N ((0 : Int32), (0 : Int32)))) fun r3 =>
      qa_in ((ma_20_50 N (ma_18_83 a2 σ) (ma_18_83 (a2 + (1 : Int32)) σ) r3.2 σ)) fun m4 =>
      ((1 : Int32), m4)
    else
      ((0 : Int32), σ)
theorem mb_17_83_50 {f N : Nat} (hN : f ≤ N) {M : q4_M} {r : Option Value × q4_M} {σ : qa_S} {a2 : Int32} (hM : qa_O M) (es : qa_s M = σ) (h : q4_run f 17 0 (lv_args 0 [.ref 83, .ref 50, .int (a2)]) [] M 0 0 = some r) : r.1 = some (.int ((ma_17_83_50 N a2 σ).1)) ∧ qa_O r.2 ∧ qa_s r.2 = (ma_17_83_50 N a2 σ).2 := by
  obtain ⟨lv, el⟩ : ∃ l, l = lv_args 0 [.ref 83, .ref 50, .int (a2)] := ⟨_, rfl⟩
  have g0 : q4_get lv 0 = some (.ref 83) := by rw [el]; rfl
  have g1 : q4_get lv 1 = some (.ref 50) := by rw [el]; rfl
  have g2 : q4_get lv 2 = some (.int (a2)) := by rw [el]; rfl
  rw [← el] at h
  clear el
  replace h := qa_aload (n := 0) (q := 1) (qa_e rfl h) rfl g0
  replace h := qa_iload (n := 2) (q := 2) (qa_e rfl h) rfl g2
  obtain ⟨M, h, hM, es⟩ := qa_c1 (y := 18) (as := [.ref 83, .int (a2)]) (rest := []) (i := .invokevirtual 18) (q := 5) (qa_e rfl h) (Or.inl rfl) rfl rfl (by decide) rfl (fun r hc => mb_18_83 hM es hc)
  obtain ⟨lv, h, g, T⟩ := qa_istore (n := 3) (q := 6) (qa_e rfl h) rfl
  replace g0 := T _ _ g0 (by decide) (Or.inr rfl)
  replace g1 := T _ _ g1 (by decide) (Or.inr rfl)
  replace g2 := T _ _ g2 (by decide) (Or.inr rfl)
  have g3 := g
  clear g T
  replace h := qa_iload (n := 3) (q := 7) (qa_e rfl h) rfl g3
  obtain ⟨M, h, hM, es⟩ := qa_c1 (y := 19) (as := [.int ((ma_18_83 a2 σ))]) (rest := []) (i := .invokestatic 19) (q := 10) (qa_e rfl h) (Or.inr rfl) rfl rfl (by decide) rfl (fun r hc => mb_19 hM es hc)
  by_cases c1 : (ma_19 (ma_18_83 a2 σ)) = (0 : Int32)
  · replace h := qa_ict (q := 22) (qa_e rfl h) rfl (qa_T_eq c1)
    replace h := qa_push (z := (0 : Int32)) (q := 23) (qa_e rfl h) rfl (by decide)
    have er := qa_ri (qa_e rfl h)
    subst er
    have e0 : ma_17_83_50 N a2 σ = ((0 : Int32), σ) := by exact Eq.trans (if_pos c1) (rfl)
    rw [e0]
    exact ⟨rfl, hM, es⟩
  · replace h := qa_icf (q := 13) (qa_e rfl h) rfl (qa_F_eq c1)
    replace h := qa_aload (n := 1) (q := 14) (qa_e rfl h) rfl g1
    replace h := qa_gi (j := 0) (q := 17) (qa_e rfl h) rfl hM es rfl (by decide)
    replace h := qa_push (z := (7 : Int32)) (q := 19) (qa_e rfl h) rfl (by decide)
    by_cases c2 : (σ 50 0) < (7 : Int32)
    · replace h := qa_ift (q := 24) (qa_e rfl h) rfl (qa_T_lt c2)
      replace h := qa_push (z := (0 : Int32)) (q := 25) (qa_e rfl h) rfl (by decide)
      obtain ⟨lv, h, g, T⟩ := qa_istore (n := 4) (q := 27) (qa_e rfl h) rfl
      replace g0 := T _ _ g0 (by decide) (Or.inr rfl)
      replace g1 := T _ _ g1 (by decide) (Or.inr rfl)
      replace g2 := T _ _ g2 (by decide) (Or.inr rfl)
      replace g3 := T _ _ g3 (by decide) (Or.inr rfl)
      have g4 := g
      clear g T
      replace h := qa_push (z := (0 : Int32)) (q := 28) (qa_e rfl h) rfl (by decide)
      obtain ⟨lv, h, g, T⟩ := qa_istore (n := 5) (q := 30) (qa_e rfl h) rfl
      replace g0 := T _ _ g0 (by decide) (Or.inr rfl)
      replace g1 := T _ _ g1 (by decide) (Or.inr rfl)
      replace g2 := T _ _ g2 (by decide) (Or.inr rfl)
      replace g3 := T _ _ g3 (by decide) (Or.inr rfl)
      replace g4 := T _ _ g4 (by decide) (Or.inr rfl)
      have g5 := g
      clear g T
      obtain ⟨r3, er3⟩ : ∃ x, x = (qa_wh (fun s => s) (mc_17_83_50_p30 N a2 (ma_18_83 a2 σ) σ) N ((0 : Int32), (0 : Int32))) := ⟨_, rfl⟩
      have L := md_17_83_50_p30 (l2 := a2) (l3 := (ma_18_83 a2 σ)) (σ := σ) (F := f) (N := N) (r := r) hN f N hN (Nat.le_refl f) ((0 : Int32), (0 : Int32)) _ _ hM es g0 g1 g2 g3 g4 g5 h
      rw [← er3] at L
      obtain ⟨lv, M, h, hM, es, g0, g1, g2, g3, g4⟩ := L
      replace h := qa_aload (n := 1) (q := 61) (qa_e rfl h) rfl g1
      replace h := qa_iload (n := 3) (q := 62) (qa_e rfl h) rfl g3
      replace h := qa_aload (n := 0) (q := 63) (qa_e rfl h) rfl g0
      replace h := qa_iload (n := 2) (q := 64) (qa_e rfl h) rfl g2
      replace h := qa_push (z := (1 : Int32)) (q := 65) (qa_e rfl h) rfl (by decide)
      replace h := qa_iadd (q := 66) (qa_e rfl h) rfl
      obtain ⟨M, h, hM, es⟩ := qa_c1 (y := 18) (as := [.ref 83, .int ((a2 + (1 : Int32)))]) (rest := [.int ((ma_18_83 a2 σ)), .ref 50]) (i := .invokevirtual 18) (q := 69) (qa_e rfl h) (Or.inl rfl) rfl rfl (by decide) rfl (fun r hc => mb_18_83 hM es hc)
      replace h := qa_iload (n := 4) (q := 71) (qa_e rfl h) rfl g4
      obtain ⟨m4, em4⟩ : ∃ x, x = (ma_20_50 N (ma_18_83 a2 σ) (ma_18_83 (a2 + (1 : Int32)) σ) r3.2 σ) := ⟨_, rfl⟩
      obtain ⟨M, h, hM, es⟩ := qa_c0 (y := 20) (as := [.ref 50, .int ((ma_18_83 a2 σ)), .int ((ma_18_83 (a2 + (1 : Int32)) σ)), .int (r3.2)]) (rest := []) (i := .invokevirtual 20) (q := 74) (qa_e rfl h) (Or.inl rfl) rfl rfl (by decide) rfl (fun r hc => mb_20_50 hN hM es hc)
      rw [← em4] at es
      replace h := qa_push (z := (1 : Int32)) (q := 75) (qa_e rfl h) rfl (by decide)
      have er := qa_ri (qa_e rfl h)
      subst er
      have e0 : ma_17_83_50 N a2 σ = ((1 : Int32), m4) := by exact Eq.trans (if_neg c1) (Eq.trans (if_pos c2) (Eq.trans (qa_ie er3) (Eq.trans (qa_ie em4) (rfl))))
      rw [e0]
      exact ⟨rfl, hM, es⟩
    · replace h := qa_iff (q := 22) (qa_e rfl h) rfl (qa_F_lt c2)
      replace h := qa_push (z := (0 : Int32)) (q := 23) (qa_e rfl h) rfl (by decide)
      have er := qa_ri (qa_e rfl h)
      subst er
      have e0 : ma_17_83_50 N a2 σ = ((0 : Int32), σ) := by exact Eq.trans (if_neg c1) (Eq.trans (if_neg c2) (rfl))
      rw [e0]
      exact ⟨rfl, hM, es⟩
/-- BuriedBySevens$Cellar, hasCask, (I)Z -/
noncomputable def ma_22_50 (a1 : Int32) (σ : qa_S) : Int32 :=
  (if a1 < (0 : Int32) then (0 : Int32) else (if a1 < (σ 50 0) then (1 : Int32) else (0 : Int32)))
theorem mb_22_50 {f : Nat} {M : q4_M} {r : Option Value × q4_M} {σ : qa_S} {a1 : Int32} (hM : qa_O M) (es : qa_s M = σ) (h : q4_run f 22 0 (lv_args 0 [.ref 50, .int (a1)]) [] M 0 0 = some r) : r.1 = some (.int ((ma_22_50 a1 σ))) ∧ qa_O r.2 ∧ qa_s r.2 = σ := by
  obtain ⟨lv, el⟩ : ∃ l, l = lv_args 0 [.ref 50, .int (a1)] := ⟨_, rfl⟩
  have g0 : q4_get lv 0 = some (.ref 50) := by rw [el]; rfl
  have g1 : q4_get lv 1 = some (.int (a1)) := by rw [el]; rfl
  rw [← el] at h
  clear el
  replace h := qa_iload (n := 1) (q := 1) (qa_e rfl h) rfl g1
  obtain ⟨lv, M, h, hM, es⟩ : ∃ lv M, q4_run f 22 17 lv [.int ((if a1 < (0 : Int32) then (0 : Int32) else (if a1 < (σ 50 0) then (1 : Int32) else (0 : Int32))))] M 0 0 = some r ∧ qa_O M ∧ qa_s M = σ := by
    by_cases c1 : a1 < (0 : Int32)
    · replace h := qa_ict (q := 16) (qa_e rfl h) rfl (qa_T_lt c1)
      replace h := qa_push (z := (0 : Int32)) (q := 17) (qa_e rfl h) rfl (by decide)
      exact ⟨lv, M, (qa_hi1 c1 h), hM, es⟩
    · replace h := qa_icf (q := 4) (qa_e rfl h) rfl (qa_F_lt c1)
      replace h := qa_iload (n := 1) (q := 5) (qa_e rfl h) rfl g1
      replace h := qa_aload (n := 0) (q := 6) (qa_e rfl h) rfl g0
      replace h := qa_gi (j := 0) (q := 9) (qa_e rfl h) rfl hM es rfl (by decide)
      obtain ⟨lv, M, h, hM, es⟩ : ∃ lv M, q4_run f 22 17 lv [.int ((if a1 < (σ 50 0) then (1 : Int32) else (0 : Int32)))] M 0 0 = some r ∧ qa_O M ∧ qa_s M = σ := by
        by_cases c2 : a1 < (σ 50 0)
        · replace h := qa_iff (q := 12) (qa_e rfl h) rfl (qa_F_ge c2)
          replace h := qa_push (z := (1 : Int32)) (q := 13) (qa_e rfl h) rfl (by decide)
          replace h := qa_goto (q := 17) (qa_e rfl h) rfl
          exact ⟨lv, M, (qa_hi1 c2 h), hM, es⟩
        · replace h := qa_ift (q := 16) (qa_e rfl h) rfl (qa_T_ge c2)
          replace h := qa_push (z := (0 : Int32)) (q := 17) (qa_e rfl h) rfl (by decide)
          exact ⟨lv, M, (qa_hi0 c2 h), hM, es⟩
      exact ⟨lv, M, (qa_hi0 c1 h), hM, es⟩
  have er := qa_ri (qa_e rfl h)
  subst er
  have e0 : ma_22_50 a1 σ = (if a1 < (0 : Int32) then (0 : Int32) else (if a1 < (σ 50 0) then (1 : Int32) else (0 : Int32))) := by exact rfl
  rw [e0]
  exact ⟨rfl, hM, es⟩
/-- BuriedBySevens$Text, shareComes, (LBuriedBySevens$Cellar;I)Z -/
noncomputable def ma_21_83_50 (a2 : Int32) (σ : qa_S) : Int32 × qa_S :=
  if (ma_22_50 (ma_18_83 a2 σ) σ) = (0 : Int32) then
    ((0 : Int32), σ)
  else
    qa_in (qa_u σ 53 (ma_18_83 a2 σ).toNatClampNeg (ma_18_83 (a2 + (1 : Int32)) σ)) fun m2 =>
    ((1 : Int32), m2)
theorem mb_21_83_50 {f : Nat} {M : q4_M} {r : Option Value × q4_M} {σ : qa_S} {a2 : Int32} (hM : qa_O M) (es : qa_s M = σ) (h : q4_run f 21 0 (lv_args 0 [.ref 83, .ref 50, .int (a2)]) [] M 0 0 = some r) : r.1 = some (.int ((ma_21_83_50 a2 σ).1)) ∧ qa_O r.2 ∧ qa_s r.2 = (ma_21_83_50 a2 σ).2 := by
  obtain ⟨lv, el⟩ : ∃ l, l = lv_args 0 [.ref 83, .ref 50, .int (a2)] := ⟨_, rfl⟩
  have g0 : q4_get lv 0 = some (.ref 83) := by rw [el]; rfl
  have g1 : q4_get lv 1 = some (.ref 50) := by rw [el]; rfl
  have g2 : q4_get lv 2 = some (.int (a2)) := by rw [el]; rfl
  rw [← el] at h
  clear el
  replace h := qa_aload (n := 0) (q := 1) (qa_e rfl h) rfl g0
  replace h := qa_iload (n := 2) (q := 2) (qa_e rfl h) rfl g2
  obtain ⟨M, h, hM, es⟩ := qa_c1 (y := 18) (as := [.ref 83, .int (a2)]) (rest := []) (i := .invokevirtual 18) (q := 5) (qa_e rfl h) (Or.inl rfl) rfl rfl (by decide) rfl (fun r hc => mb_18_83 hM es hc)
  obtain ⟨lv, h, g, T⟩ := qa_istore (n := 3) (q := 6) (qa_e rfl h) rfl
  replace g0 := T _ _ g0 (by decide) (Or.inr rfl)
  replace g1 := T _ _ g1 (by decide) (Or.inr rfl)
  replace g2 := T _ _ g2 (by decide) (Or.inr rfl)
  have g3 := g
  clear g T
  replace h := qa_aload (n := 1) (q := 7) (qa_e rfl h) rfl g1
  replace h := qa_iload (n := 3) (q := 8) (qa_e rfl h) rfl g3
  obtain ⟨M, h, hM, es⟩ := qa_c1 (y := 22) (as := [.ref 50, .int ((ma_18_83 a2 σ))]) (rest := []) (i := .invokevirtual 22) (q := 11) (qa_e rfl h) (Or.inl rfl) rfl rfl (by decide) rfl (fun r hc => mb_22_50 hM es hc)
  by_cases c1 : (ma_22_50 (ma_18_83 a2 σ) σ) = (0 : Int32)
  · replace h := qa_icf (q := 14) (qa_e rfl h) rfl (qa_F_ne c1)
    replace h := qa_push (z := (0 : Int32)) (q := 15) (qa_e rfl h) rfl (by decide)
    have er := qa_ri (qa_e rfl h)
    subst er
    have e0 : ma_21_83_50 a2 σ = ((0 : Int32), σ) := by exact Eq.trans (if_pos c1) (rfl)
    rw [e0]
    exact ⟨rfl, hM, es⟩
  · replace h := qa_ict (q := 16) (qa_e rfl h) rfl (qa_T_ne c1)
    replace h := qa_aload (n := 1) (q := 17) (qa_e rfl h) rfl g1
    replace h := qa_gr (b := 53) (j := 4) (q := 20) (qa_e rfl h) rfl hM rfl (by decide)
    replace h := qa_iload (n := 3) (q := 21) (qa_e rfl h) rfl g3
    replace h := qa_aload (n := 0) (q := 22) (qa_e rfl h) rfl g0
    replace h := qa_iload (n := 2) (q := 23) (qa_e rfl h) rfl g2
    replace h := qa_push (z := (1 : Int32)) (q := 24) (qa_e rfl h) rfl (by decide)
    replace h := qa_iadd (q := 25) (qa_e rfl h) rfl
    obtain ⟨M, h, hM, es⟩ := qa_c1 (y := 18) (as := [.ref 83, .int ((a2 + (1 : Int32)))]) (rest := [.int ((ma_18_83 a2 σ)), .ref 53]) (i := .invokevirtual 18) (q := 28) (qa_e rfl h) (Or.inl rfl) rfl rfl (by decide) rfl (fun r hc => mb_18_83 hM es hc)
    obtain ⟨m2, em2⟩ : ∃ x, x = qa_u σ 53 (ma_18_83 a2 σ).toNatClampNeg (ma_18_83 (a2 + (1 : Int32)) σ) := ⟨_, rfl⟩
    obtain ⟨M, h, hM, es⟩ := qa_iastore (jn := (ma_18_83 a2 σ).toNatClampNeg) (q := 29) (qa_e rfl h) rfl hM es rfl
    rw [← em2] at es
    replace h := qa_push (z := (1 : Int32)) (q := 30) (qa_e rfl h) rfl (by decide)
    have er := qa_ri (qa_e rfl h)
    subst er
    have e0 : ma_21_83_50 a2 σ = ((1 : Int32), m2) := by exact Eq.trans (if_neg c1) (Eq.trans (qa_ie em2) (rfl))
    rw [e0]
    exact ⟨rfl, hM, es⟩
/-- BuriedBySevens$Cellar, addTaster, (III)V -/
noncomputable def ma_24_50 (a1 : Int32) (a2 : Int32) (a3 : Int32) (σ : qa_S) : qa_S :=
  if (σ 50 1) < (6 : Int32) then
    qa_in (qa_u σ 70 (σ 50 1).toNatClampNeg a1) fun m2 =>
    qa_in (qa_u m2 71 (m2 50 1).toNatClampNeg a2) fun m3 =>
    qa_in (qa_u m3 72 (m3 50 1).toNatClampNeg a3) fun m4 =>
    qa_in (qa_u m4 50 1 ((m4 50 1) + (1 : Int32))) fun m5 =>
    m5
  else
    σ
theorem mb_24_50 {f : Nat} {M : q4_M} {r : Option Value × q4_M} {σ : qa_S} {a1 : Int32} {a2 : Int32} {a3 : Int32} (hM : qa_O M) (es : qa_s M = σ) (h : q4_run f 24 0 (lv_args 0 [.ref 50, .int (a1), .int (a2), .int (a3)]) [] M 0 0 = some r) : r.1 = none ∧ qa_O r.2 ∧ qa_s r.2 = (ma_24_50 a1 a2 a3 σ) := by
  obtain ⟨lv, el⟩ : ∃ l, l = lv_args 0 [.ref 50, .int (a1), .int (a2), .int (a3)] := ⟨_, rfl⟩
  have g0 : q4_get lv 0 = some (.ref 50) := by rw [el]; rfl
  have g1 : q4_get lv 1 = some (.int (a1)) := by rw [el]; rfl
  have g2 : q4_get lv 2 = some (.int (a2)) := by rw [el]; rfl
  have g3 : q4_get lv 3 = some (.int (a3)) := by rw [el]; rfl
  rw [← el] at h
  clear el
  replace h := qa_aload (n := 0) (q := 1) (qa_e rfl h) rfl g0
  replace h := qa_gi (j := 1) (q := 4) (qa_e rfl h) rfl hM es rfl (by decide)
  replace h := qa_push (z := (6 : Int32)) (q := 6) (qa_e rfl h) rfl (by decide)
  by_cases c1 : (σ 50 1) < (6 : Int32)
  · replace h := qa_ift (q := 10) (qa_e rfl h) rfl (qa_T_lt c1)
    replace h := qa_aload (n := 0) (q := 11) (qa_e rfl h) rfl g0
    replace h := qa_gr (b := 70) (j := 7) (q := 14) (qa_e rfl h) rfl hM rfl (by decide)
    replace h := qa_aload (n := 0) (q := 15) (qa_e rfl h) rfl g0
    replace h := qa_gi (j := 1) (q := 18) (qa_e rfl h) rfl hM es rfl (by decide)
    replace h := qa_iload (n := 1) (q := 19) (qa_e rfl h) rfl g1
    obtain ⟨m2, em2⟩ : ∃ x, x = qa_u σ 70 (σ 50 1).toNatClampNeg a1 := ⟨_, rfl⟩
    obtain ⟨M, h, hM, es⟩ := qa_iastore (jn := (σ 50 1).toNatClampNeg) (q := 20) (qa_e rfl h) rfl hM es rfl
    rw [← em2] at es
    replace h := qa_aload (n := 0) (q := 21) (qa_e rfl h) rfl g0
    replace h := qa_gr (b := 71) (j := 8) (q := 24) (qa_e rfl h) rfl hM rfl (by decide)
    replace h := qa_aload (n := 0) (q := 25) (qa_e rfl h) rfl g0
    replace h := qa_gi (j := 1) (q := 28) (qa_e rfl h) rfl hM es rfl (by decide)
    replace h := qa_iload (n := 2) (q := 29) (qa_e rfl h) rfl g2
    obtain ⟨m3, em3⟩ : ∃ x, x = qa_u m2 71 (m2 50 1).toNatClampNeg a2 := ⟨_, rfl⟩
    obtain ⟨M, h, hM, es⟩ := qa_iastore (jn := (m2 50 1).toNatClampNeg) (q := 30) (qa_e rfl h) rfl hM es rfl
    rw [← em3] at es
    replace h := qa_aload (n := 0) (q := 31) (qa_e rfl h) rfl g0
    replace h := qa_gr (b := 72) (j := 9) (q := 34) (qa_e rfl h) rfl hM rfl (by decide)
    replace h := qa_aload (n := 0) (q := 35) (qa_e rfl h) rfl g0
    replace h := qa_gi (j := 1) (q := 38) (qa_e rfl h) rfl hM es rfl (by decide)
    replace h := qa_iload (n := 3) (q := 39) (qa_e rfl h) rfl g3
    obtain ⟨m4, em4⟩ : ∃ x, x = qa_u m3 72 (m3 50 1).toNatClampNeg a3 := ⟨_, rfl⟩
    obtain ⟨M, h, hM, es⟩ := qa_iastore (jn := (m3 50 1).toNatClampNeg) (q := 40) (qa_e rfl h) rfl hM es rfl
    rw [← em4] at es
    replace h := qa_aload (n := 0) (q := 41) (qa_e rfl h) rfl g0
    replace h := qa_dupa (q := 42) (qa_e rfl h) rfl
    replace h := qa_gi (j := 1) (q := 45) (qa_e rfl h) rfl hM es rfl (by decide)
    replace h := qa_push (z := (1 : Int32)) (q := 46) (qa_e rfl h) rfl (by decide)
    replace h := qa_iadd (q := 47) (qa_e rfl h) rfl
    obtain ⟨m5, em5⟩ : ∃ x, x = qa_u m4 50 1 ((m4 50 1) + (1 : Int32)) := ⟨_, rfl⟩
    obtain ⟨M, h, hM, es⟩ := qa_pf (j := 1) (q := 50) (qa_e rfl h) rfl hM es rfl (by decide)
    rw [← em5] at es
    have er := qa_rv (qa_e rfl h)
    subst er
    have e0 : ma_24_50 a1 a2 a3 σ = m5 := by exact Eq.trans (if_pos c1) (Eq.trans (qa_ie em2) (Eq.trans (qa_ie em3) (Eq.trans (qa_ie em4) (Eq.trans (qa_ie em5) (rfl)))))
    rw [e0]
    exact ⟨rfl, hM, es⟩
  · replace h := qa_iff (q := 9) (qa_e rfl h) rfl (qa_F_lt c1)
    have er := qa_rv (qa_e rfl h)
    subst er
    have e0 : ma_24_50 a1 a2 a3 σ = σ := by exact Eq.trans (if_neg c1) (rfl)
    rw [e0]
    exact ⟨rfl, hM, es⟩
/-- BuriedBySevens$Text, tasterComes, (LBuriedBySevens$Cellar;I)Z -/
noncomputable def ma_23_83_50 (a2 : Int32) (σ : qa_S) : Int32 × qa_S :=
  if (((10 : Int32) * (ma_18_83 a2 σ)) + (ma_18_83 (a2 + (1 : Int32)) σ)) < (1 : Int32) then
    ((0 : Int32), σ)
  else
    if (15 : Int32) < (((10 : Int32) * (ma_18_83 a2 σ)) + (ma_18_83 (a2 + (1 : Int32)) σ)) then
      ((0 : Int32), σ)
    else
      if (σ 50 1) < (6 : Int32) then
        qa_in ((ma_24_50 (((10 : Int32) * (ma_18_83 a2 σ)) + (ma_18_83 (a2 + (1 : Int32)) σ)) (ma_18_83 (a2 + (2 : Int32)) σ) (ma_18_83 (a2 + (3 : Int32)) σ) σ)) fun m4 =>
        ((1 : Int32), m4)
      else
        ((0 : Int32), σ)
theorem mb_23_83_50 {f : Nat} {M : q4_M} {r : Option Value × q4_M} {σ : qa_S} {a2 : Int32} (hM : qa_O M) (es : qa_s M = σ) (h : q4_run f 23 0 (lv_args 0 [.ref 83, .ref 50, .int (a2)]) [] M 0 0 = some r) : r.1 = some (.int ((ma_23_83_50 a2 σ).1)) ∧ qa_O r.2 ∧ qa_s r.2 = (ma_23_83_50 a2 σ).2 := by
  obtain ⟨lv, el⟩ : ∃ l, l = lv_args 0 [.ref 83, .ref 50, .int (a2)] := ⟨_, rfl⟩
  have g0 : q4_get lv 0 = some (.ref 83) := by rw [el]; rfl
  have g1 : q4_get lv 1 = some (.ref 50) := by rw [el]; rfl
  have g2 : q4_get lv 2 = some (.int (a2)) := by rw [el]; rfl
  rw [← el] at h
  clear el
  replace h := qa_push (z := (10 : Int32)) (q := 2) (qa_e rfl h) rfl (by decide)
  replace h := qa_aload (n := 0) (q := 3) (qa_e rfl h) rfl g0
  replace h := qa_iload (n := 2) (q := 4) (qa_e rfl h) rfl g2
  obtain ⟨M, h, hM, es⟩ := qa_c1 (y := 18) (as := [.ref 83, .int (a2)]) (rest := [.int ((10 : Int32))]) (i := .invokevirtual 18) (q := 7) (qa_e rfl h) (Or.inl rfl) rfl rfl (by decide) rfl (fun r hc => mb_18_83 hM es hc)
  replace h := qa_imul (q := 8) (qa_e rfl h) rfl
  replace h := qa_aload (n := 0) (q := 9) (qa_e rfl h) rfl g0
  replace h := qa_iload (n := 2) (q := 10) (qa_e rfl h) rfl g2
  replace h := qa_push (z := (1 : Int32)) (q := 11) (qa_e rfl h) rfl (by decide)
  replace h := qa_iadd (q := 12) (qa_e rfl h) rfl
  obtain ⟨M, h, hM, es⟩ := qa_c1 (y := 18) (as := [.ref 83, .int ((a2 + (1 : Int32)))]) (rest := [.int (((10 : Int32) * (ma_18_83 a2 σ)))]) (i := .invokevirtual 18) (q := 15) (qa_e rfl h) (Or.inl rfl) rfl rfl (by decide) rfl (fun r hc => mb_18_83 hM es hc)
  replace h := qa_iadd (q := 16) (qa_e rfl h) rfl
  obtain ⟨lv, h, g, T⟩ := qa_istore (n := 3) (q := 17) (qa_e rfl h) rfl
  replace g0 := T _ _ g0 (by decide) (Or.inr rfl)
  replace g1 := T _ _ g1 (by decide) (Or.inr rfl)
  replace g2 := T _ _ g2 (by decide) (Or.inr rfl)
  have g3 := g
  clear g T
  replace h := qa_iload (n := 3) (q := 18) (qa_e rfl h) rfl g3
  replace h := qa_push (z := (1 : Int32)) (q := 19) (qa_e rfl h) rfl (by decide)
  by_cases c1 : (((10 : Int32) * (ma_18_83 a2 σ)) + (ma_18_83 (a2 + (1 : Int32)) σ)) < (1 : Int32)
  · replace h := qa_ift (q := 37) (qa_e rfl h) rfl (qa_T_lt c1)
    replace h := qa_push (z := (0 : Int32)) (q := 38) (qa_e rfl h) rfl (by decide)
    have er := qa_ri (qa_e rfl h)
    subst er
    have e0 : ma_23_83_50 a2 σ = ((0 : Int32), σ) := by exact Eq.trans (if_pos c1) (rfl)
    rw [e0]
    exact ⟨rfl, hM, es⟩
  · replace h := qa_iff (q := 22) (qa_e rfl h) rfl (qa_F_lt c1)
    replace h := qa_iload (n := 3) (q := 23) (qa_e rfl h) rfl g3
    replace h := qa_push (z := (15 : Int32)) (q := 25) (qa_e rfl h) rfl (by decide)
    by_cases c2 : (15 : Int32) < (((10 : Int32) * (ma_18_83 a2 σ)) + (ma_18_83 (a2 + (1 : Int32)) σ))
    · replace h := qa_ift (q := 37) (qa_e rfl h) rfl (qa_T_gt c2)
      replace h := qa_push (z := (0 : Int32)) (q := 38) (qa_e rfl h) rfl (by decide)
      have er := qa_ri (qa_e rfl h)
      subst er
      have e0 : ma_23_83_50 a2 σ = ((0 : Int32), σ) := by exact Eq.trans (if_neg c1) (Eq.trans (if_pos c2) (rfl))
      rw [e0]
      exact ⟨rfl, hM, es⟩
    · replace h := qa_iff (q := 28) (qa_e rfl h) rfl (qa_F_gt c2)
      replace h := qa_aload (n := 1) (q := 29) (qa_e rfl h) rfl g1
      replace h := qa_gi (j := 1) (q := 32) (qa_e rfl h) rfl hM es rfl (by decide)
      replace h := qa_push (z := (6 : Int32)) (q := 34) (qa_e rfl h) rfl (by decide)
      by_cases c3 : (σ 50 1) < (6 : Int32)
      · replace h := qa_ift (q := 39) (qa_e rfl h) rfl (qa_T_lt c3)
        replace h := qa_aload (n := 1) (q := 40) (qa_e rfl h) rfl g1
        replace h := qa_iload (n := 3) (q := 41) (qa_e rfl h) rfl g3
        replace h := qa_aload (n := 0) (q := 42) (qa_e rfl h) rfl g0
        replace h := qa_iload (n := 2) (q := 43) (qa_e rfl h) rfl g2
        replace h := qa_push (z := (2 : Int32)) (q := 44) (qa_e rfl h) rfl (by decide)
        replace h := qa_iadd (q := 45) (qa_e rfl h) rfl
        obtain ⟨M, h, hM, es⟩ := qa_c1 (y := 18) (as := [.ref 83, .int ((a2 + (2 : Int32)))]) (rest := [.int ((((10 : Int32) * (ma_18_83 a2 σ)) + (ma_18_83 (a2 + (1 : Int32)) σ))), .ref 50]) (i := .invokevirtual 18) (q := 48) (qa_e rfl h) (Or.inl rfl) rfl rfl (by decide) rfl (fun r hc => mb_18_83 hM es hc)
        replace h := qa_aload (n := 0) (q := 49) (qa_e rfl h) rfl g0
        replace h := qa_iload (n := 2) (q := 50) (qa_e rfl h) rfl g2
        replace h := qa_push (z := (3 : Int32)) (q := 51) (qa_e rfl h) rfl (by decide)
        replace h := qa_iadd (q := 52) (qa_e rfl h) rfl
        obtain ⟨M, h, hM, es⟩ := qa_c1 (y := 18) (as := [.ref 83, .int ((a2 + (3 : Int32)))]) (rest := [.int ((ma_18_83 (a2 + (2 : Int32)) σ)), .int ((((10 : Int32) * (ma_18_83 a2 σ)) + (ma_18_83 (a2 + (1 : Int32)) σ))), .ref 50]) (i := .invokevirtual 18) (q := 55) (qa_e rfl h) (Or.inl rfl) rfl rfl (by decide) rfl (fun r hc => mb_18_83 hM es hc)
        obtain ⟨m4, em4⟩ : ∃ x, x = (ma_24_50 (((10 : Int32) * (ma_18_83 a2 σ)) + (ma_18_83 (a2 + (1 : Int32)) σ)) (ma_18_83 (a2 + (2 : Int32)) σ) (ma_18_83 (a2 + (3 : Int32)) σ) σ) := ⟨_, rfl⟩
        obtain ⟨M, h, hM, es⟩ := qa_c0 (y := 24) (as := [.ref 50, .int ((((10 : Int32) * (ma_18_83 a2 σ)) + (ma_18_83 (a2 + (1 : Int32)) σ))), .int ((ma_18_83 (a2 + (2 : Int32)) σ)), .int ((ma_18_83 (a2 + (3 : Int32)) σ))]) (rest := []) (i := .invokevirtual 24) (q := 58) (qa_e rfl h) (Or.inl rfl) rfl rfl (by decide) rfl (fun r hc => mb_24_50 hM es hc)
        rw [← em4] at es
        replace h := qa_push (z := (1 : Int32)) (q := 59) (qa_e rfl h) rfl (by decide)
        have er := qa_ri (qa_e rfl h)
        subst er
        have e0 : ma_23_83_50 a2 σ = ((1 : Int32), m4) := by exact Eq.trans (if_neg c1) (Eq.trans (if_neg c2) (Eq.trans (if_pos c3) (Eq.trans (qa_ie em4) (rfl))))
        rw [e0]
        exact ⟨rfl, hM, es⟩
      · replace h := qa_iff (q := 37) (qa_e rfl h) rfl (qa_F_lt c3)
        replace h := qa_push (z := (0 : Int32)) (q := 38) (qa_e rfl h) rfl (by decide)
        have er := qa_ri (qa_e rfl h)
        subst er
        have e0 : ma_23_83_50 a2 σ = ((0 : Int32), σ) := by exact Eq.trans (if_neg c1) (Eq.trans (if_neg c2) (Eq.trans (if_neg c3) (rfl)))
        rw [e0]
        exact ⟨rfl, hM, es⟩
/-- BuriedBySevens, isMark, (I)Z -/
noncomputable def ma_26 (a0 : Int32) : Int32 :=
  (if a0 < (0 : Int32) then (0 : Int32) else (if a0 < (4 : Int32) then (1 : Int32) else (0 : Int32)))
theorem mb_26 {f : Nat} {M : q4_M} {r : Option Value × q4_M} {σ : qa_S} {a0 : Int32} (hM : qa_O M) (es : qa_s M = σ) (h : q4_run f 26 0 (lv_args 0 [.int (a0)]) [] M 0 0 = some r) : r.1 = some (.int ((ma_26 a0))) ∧ qa_O r.2 ∧ qa_s r.2 = σ := by
  obtain ⟨lv, el⟩ : ∃ l, l = lv_args 0 [.int (a0)] := ⟨_, rfl⟩
  have g0 : q4_get lv 0 = some (.int (a0)) := by rw [el]; rfl
  rw [← el] at h
  clear el
  replace h := qa_iload (n := 0) (q := 1) (qa_e rfl h) rfl g0
  obtain ⟨lv, M, h, hM, es⟩ : ∃ lv M, q4_run f 26 14 lv [.int ((if a0 < (0 : Int32) then (0 : Int32) else (if a0 < (4 : Int32) then (1 : Int32) else (0 : Int32))))] M 0 0 = some r ∧ qa_O M ∧ qa_s M = σ := by
    by_cases c1 : a0 < (0 : Int32)
    · replace h := qa_ict (q := 13) (qa_e rfl h) rfl (qa_T_lt c1)
      replace h := qa_push (z := (0 : Int32)) (q := 14) (qa_e rfl h) rfl (by decide)
      exact ⟨lv, M, (qa_hi1 c1 h), hM, es⟩
    · replace h := qa_icf (q := 4) (qa_e rfl h) rfl (qa_F_lt c1)
      replace h := qa_iload (n := 0) (q := 5) (qa_e rfl h) rfl g0
      replace h := qa_push (z := (4 : Int32)) (q := 6) (qa_e rfl h) rfl (by decide)
      obtain ⟨lv, M, h, hM, es⟩ : ∃ lv M, q4_run f 26 14 lv [.int ((if a0 < (4 : Int32) then (1 : Int32) else (0 : Int32)))] M 0 0 = some r ∧ qa_O M ∧ qa_s M = σ := by
        by_cases c2 : a0 < (4 : Int32)
        · replace h := qa_iff (q := 9) (qa_e rfl h) rfl (qa_F_ge c2)
          replace h := qa_push (z := (1 : Int32)) (q := 10) (qa_e rfl h) rfl (by decide)
          replace h := qa_goto (q := 14) (qa_e rfl h) rfl
          exact ⟨lv, M, (qa_hi1 c2 h), hM, es⟩
        · replace h := qa_ift (q := 13) (qa_e rfl h) rfl (qa_T_ge c2)
          replace h := qa_push (z := (0 : Int32)) (q := 14) (qa_e rfl h) rfl (by decide)
          exact ⟨lv, M, (qa_hi0 c2 h), hM, es⟩
      exact ⟨lv, M, (qa_hi0 c1 h), hM, es⟩
  have er := qa_ri (qa_e rfl h)
  subst er
  have e0 : ma_26 a0 = (if a0 < (0 : Int32) then (0 : Int32) else (if a0 < (4 : Int32) then (1 : Int32) else (0 : Int32))) := by exact rfl
  rw [e0]
  exact ⟨rfl, hM, es⟩
/-- BuriedBySevens$Text, markComes, (LBuriedBySevens$Cellar;I)Z -/
noncomputable def ma_25_83_50 (a2 : Int32) (σ : qa_S) : Int32 × qa_S :=
  if (ma_22_50 (ma_18_83 a2 σ) σ) = (0 : Int32) then
    ((0 : Int32), σ)
  else
    if (ma_26 (ma_18_83 (a2 + (1 : Int32)) σ)) = (0 : Int32) then
      ((0 : Int32), σ)
    else
      qa_in (qa_u σ (55 + (ma_18_83 a2 σ).toNatClampNeg) (ma_18_83 (a2 + (1 : Int32)) σ).toNatClampNeg (ma_18_83 (a2 + (2 : Int32)) σ)) fun m3 =>
      ((1 : Int32), m3)
theorem mb_25_83_50 {f : Nat} {M : q4_M} {r : Option Value × q4_M} {σ : qa_S} {a2 : Int32} (hM : qa_O M) (es : qa_s M = σ) (h : q4_run f 25 0 (lv_args 0 [.ref 83, .ref 50, .int (a2)]) [] M 0 0 = some r) : r.1 = some (.int ((ma_25_83_50 a2 σ).1)) ∧ qa_O r.2 ∧ qa_s r.2 = (ma_25_83_50 a2 σ).2 := by
  obtain ⟨lv, el⟩ : ∃ l, l = lv_args 0 [.ref 83, .ref 50, .int (a2)] := ⟨_, rfl⟩
  have g0 : q4_get lv 0 = some (.ref 83) := by rw [el]; rfl
  have g1 : q4_get lv 1 = some (.ref 50) := by rw [el]; rfl
  have g2 : q4_get lv 2 = some (.int (a2)) := by rw [el]; rfl
  rw [← el] at h
  clear el
  replace h := qa_aload (n := 0) (q := 1) (qa_e rfl h) rfl g0
  replace h := qa_iload (n := 2) (q := 2) (qa_e rfl h) rfl g2
  obtain ⟨M, h, hM, es⟩ := qa_c1 (y := 18) (as := [.ref 83, .int (a2)]) (rest := []) (i := .invokevirtual 18) (q := 5) (qa_e rfl h) (Or.inl rfl) rfl rfl (by decide) rfl (fun r hc => mb_18_83 hM es hc)
  obtain ⟨lv, h, g, T⟩ := qa_istore (n := 3) (q := 6) (qa_e rfl h) rfl
  replace g0 := T _ _ g0 (by decide) (Or.inr rfl)
  replace g1 := T _ _ g1 (by decide) (Or.inr rfl)
  replace g2 := T _ _ g2 (by decide) (Or.inr rfl)
  have g3 := g
  clear g T
  replace h := qa_aload (n := 0) (q := 7) (qa_e rfl h) rfl g0
  replace h := qa_iload (n := 2) (q := 8) (qa_e rfl h) rfl g2
  replace h := qa_push (z := (1 : Int32)) (q := 9) (qa_e rfl h) rfl (by decide)
  replace h := qa_iadd (q := 10) (qa_e rfl h) rfl
  obtain ⟨M, h, hM, es⟩ := qa_c1 (y := 18) (as := [.ref 83, .int ((a2 + (1 : Int32)))]) (rest := []) (i := .invokevirtual 18) (q := 13) (qa_e rfl h) (Or.inl rfl) rfl rfl (by decide) rfl (fun r hc => mb_18_83 hM es hc)
  obtain ⟨lv, h, g, T⟩ := qa_istore (n := 4) (q := 15) (qa_e rfl h) rfl
  replace g0 := T _ _ g0 (by decide) (Or.inr rfl)
  replace g1 := T _ _ g1 (by decide) (Or.inr rfl)
  replace g2 := T _ _ g2 (by decide) (Or.inr rfl)
  replace g3 := T _ _ g3 (by decide) (Or.inr rfl)
  have g4 := g
  clear g T
  replace h := qa_aload (n := 1) (q := 16) (qa_e rfl h) rfl g1
  replace h := qa_iload (n := 3) (q := 17) (qa_e rfl h) rfl g3
  obtain ⟨M, h, hM, es⟩ := qa_c1 (y := 22) (as := [.ref 50, .int ((ma_18_83 a2 σ))]) (rest := []) (i := .invokevirtual 22) (q := 20) (qa_e rfl h) (Or.inl rfl) rfl rfl (by decide) rfl (fun r hc => mb_22_50 hM es hc)
  by_cases c1 : (ma_22_50 (ma_18_83 a2 σ) σ) = (0 : Int32)
  · replace h := qa_ict (q := 31) (qa_e rfl h) rfl (qa_T_eq c1)
    replace h := qa_push (z := (0 : Int32)) (q := 32) (qa_e rfl h) rfl (by decide)
    have er := qa_ri (qa_e rfl h)
    subst er
    have e0 : ma_25_83_50 a2 σ = ((0 : Int32), σ) := by exact Eq.trans (if_pos c1) (rfl)
    rw [e0]
    exact ⟨rfl, hM, es⟩
  · replace h := qa_icf (q := 23) (qa_e rfl h) rfl (qa_F_eq c1)
    replace h := qa_iload (n := 4) (q := 25) (qa_e rfl h) rfl g4
    obtain ⟨M, h, hM, es⟩ := qa_c1 (y := 26) (as := [.int ((ma_18_83 (a2 + (1 : Int32)) σ))]) (rest := []) (i := .invokestatic 26) (q := 28) (qa_e rfl h) (Or.inr rfl) rfl rfl (by decide) rfl (fun r hc => mb_26 hM es hc)
    by_cases c2 : (ma_26 (ma_18_83 (a2 + (1 : Int32)) σ)) = (0 : Int32)
    · replace h := qa_icf (q := 31) (qa_e rfl h) rfl (qa_F_ne c2)
      replace h := qa_push (z := (0 : Int32)) (q := 32) (qa_e rfl h) rfl (by decide)
      have er := qa_ri (qa_e rfl h)
      subst er
      have e0 : ma_25_83_50 a2 σ = ((0 : Int32), σ) := by exact Eq.trans (if_neg c1) (Eq.trans (if_pos c2) (rfl))
      rw [e0]
      exact ⟨rfl, hM, es⟩
    · replace h := qa_ict (q := 33) (qa_e rfl h) rfl (qa_T_ne c2)
      replace h := qa_aload (n := 1) (q := 34) (qa_e rfl h) rfl g1
      replace h := qa_gr (b := 54) (j := 5) (q := 37) (qa_e rfl h) rfl hM rfl (by decide)
      replace h := qa_iload (n := 3) (q := 38) (qa_e rfl h) rfl g3
      replace h := qa_aaload (b := 55) (jn := (ma_18_83 a2 σ).toNatClampNeg) (q := 39) (qa_e rfl h) rfl hM rfl (by decide) (by decide +kernel)
      replace h := qa_iload (n := 4) (q := 41) (qa_e rfl h) rfl g4
      replace h := qa_aload (n := 0) (q := 42) (qa_e rfl h) rfl g0
      replace h := qa_iload (n := 2) (q := 43) (qa_e rfl h) rfl g2
      replace h := qa_push (z := (2 : Int32)) (q := 44) (qa_e rfl h) rfl (by decide)
      replace h := qa_iadd (q := 45) (qa_e rfl h) rfl
      obtain ⟨M, h, hM, es⟩ := qa_c1 (y := 18) (as := [.ref 83, .int ((a2 + (2 : Int32)))]) (rest := [.int ((ma_18_83 (a2 + (1 : Int32)) σ)), .ref ((55 + (ma_18_83 a2 σ).toNatClampNeg))]) (i := .invokevirtual 18) (q := 48) (qa_e rfl h) (Or.inl rfl) rfl rfl (by decide) rfl (fun r hc => mb_18_83 hM es hc)
      obtain ⟨m3, em3⟩ : ∃ x, x = qa_u σ (55 + (ma_18_83 a2 σ).toNatClampNeg) (ma_18_83 (a2 + (1 : Int32)) σ).toNatClampNeg (ma_18_83 (a2 + (2 : Int32)) σ) := ⟨_, rfl⟩
      obtain ⟨M, h, hM, es⟩ := qa_iastore (jn := (ma_18_83 (a2 + (1 : Int32)) σ).toNatClampNeg) (q := 49) (qa_e rfl h) rfl hM es rfl
      rw [← em3] at es
      replace h := qa_push (z := (1 : Int32)) (q := 50) (qa_e rfl h) rfl (by decide)
      have er := qa_ri (qa_e rfl h)
      subst er
      have e0 : ma_25_83_50 a2 σ = ((1 : Int32), m3) := by exact Eq.trans (if_neg c1) (Eq.trans (if_neg c2) (Eq.trans (qa_ie em3) (rfl)))
      rw [e0]
      exact ⟨rfl, hM, es⟩
/-- BuriedBySevens$Text, comesInto, (LBuriedBySevens$Cellar;I)Z -/
noncomputable def ma_16_83_50 (N : Nat) (a2 : Int32) (σ : qa_S) : Int32 × qa_S :=
  if (σ 84 a2.toNatClampNeg) = (99 : Int32) then
    qa_in ((ma_17_83_50 N (a2 + (1 : Int32)) σ)) fun r4 =>
    (r4.1, r4.2)
  else
    if (σ 84 a2.toNatClampNeg) = (115 : Int32) then
      qa_in ((ma_21_83_50 (a2 + (1 : Int32)) σ)) fun r5 =>
      (r5.1, r5.2)
    else
      if (σ 84 a2.toNatClampNeg) = (116 : Int32) then
        qa_in ((ma_23_83_50 (a2 + (1 : Int32)) σ)) fun r6 =>
        (r6.1, r6.2)
      else
        qa_in ((ma_25_83_50 (a2 + (1 : Int32)) σ)) fun r7 =>
        (r7.1, r7.2)
theorem mb_16_83_50 {f N : Nat} (hN : f ≤ N) {M : q4_M} {r : Option Value × q4_M} {σ : qa_S} {a2 : Int32} (hM : qa_O M) (es : qa_s M = σ) (h : q4_run f 16 0 (lv_args 0 [.ref 83, .ref 50, .int (a2)]) [] M 0 0 = some r) : r.1 = some (.int ((ma_16_83_50 N a2 σ).1)) ∧ qa_O r.2 ∧ qa_s r.2 = (ma_16_83_50 N a2 σ).2 := by
  obtain ⟨lv, el⟩ : ∃ l, l = lv_args 0 [.ref 83, .ref 50, .int (a2)] := ⟨_, rfl⟩
  have g0 : q4_get lv 0 = some (.ref 83) := by rw [el]; rfl
  have g1 : q4_get lv 1 = some (.ref 50) := by rw [el]; rfl
  have g2 : q4_get lv 2 = some (.int (a2)) := by rw [el]; rfl
  rw [← el] at h
  clear el
  replace h := qa_aload (n := 0) (q := 1) (qa_e rfl h) rfl g0
  replace h := qa_gr (b := 84) (j := 1) (q := 4) (qa_e rfl h) rfl hM rfl (by decide)
  replace h := qa_iload (n := 2) (q := 5) (qa_e rfl h) rfl g2
  replace h := qa_iaload (jn := a2.toNatClampNeg) (q := 6) (qa_e rfl h) rfl hM es rfl
  by_cases c1 : (σ 84 a2.toNatClampNeg) = (99 : Int32)
  · replace h := qa_ls (T := 40) (q := 40) (qa_e rfl h) (by rw [Op.lookupswitch.offset_cons, if_pos (qa_sp c1 (by decide))]) rfl
    replace h := qa_aload (n := 0) (q := 41) (qa_e rfl h) rfl g0
    replace h := qa_aload (n := 1) (q := 42) (qa_e rfl h) rfl g1
    replace h := qa_iload (n := 2) (q := 43) (qa_e rfl h) rfl g2
    replace h := qa_push (z := (1 : Int32)) (q := 44) (qa_e rfl h) rfl (by decide)
    replace h := qa_iadd (q := 45) (qa_e rfl h) rfl
    obtain ⟨r4, er4⟩ : ∃ x, x = (ma_17_83_50 N (a2 + (1 : Int32)) σ) := ⟨_, rfl⟩
    obtain ⟨M, h, hM, es⟩ := qa_c1 (y := 17) (as := [.ref 83, .ref 50, .int ((a2 + (1 : Int32)))]) (rest := []) (i := .invokevirtual 17) (q := 48) (qa_e rfl h) (Or.inl rfl) rfl rfl (by decide) rfl (fun r hc => mb_17_83_50 hN hM es hc)
    rw [← er4] at h es
    have er := qa_ri (qa_e rfl h)
    subst er
    have e0 : ma_16_83_50 N a2 σ = (r4.1, r4.2) := by exact Eq.trans (if_pos c1) (Eq.trans (qa_ie er4) (rfl))
    rw [e0]
    exact ⟨rfl, hM, es⟩
  · by_cases c2 : (σ 84 a2.toNatClampNeg) = (115 : Int32)
    · replace h := qa_ls (T := 49) (q := 49) (qa_e rfl h) (by rw [Op.lookupswitch.offset_cons, if_neg (qa_sn c1 (by decide))]; rw [Op.lookupswitch.offset_cons, if_pos (qa_sp c2 (by decide))]) rfl
      replace h := qa_aload (n := 0) (q := 50) (qa_e rfl h) rfl g0
      replace h := qa_aload (n := 1) (q := 51) (qa_e rfl h) rfl g1
      replace h := qa_iload (n := 2) (q := 52) (qa_e rfl h) rfl g2
      replace h := qa_push (z := (1 : Int32)) (q := 53) (qa_e rfl h) rfl (by decide)
      replace h := qa_iadd (q := 54) (qa_e rfl h) rfl
      obtain ⟨r5, er5⟩ : ∃ x, x = (ma_21_83_50 (a2 + (1 : Int32)) σ) := ⟨_, rfl⟩
      obtain ⟨M, h, hM, es⟩ := qa_c1 (y := 21) (as := [.ref 83, .ref 50, .int ((a2 + (1 : Int32)))]) (rest := []) (i := .invokevirtual 21) (q := 57) (qa_e rfl h) (Or.inl rfl) rfl rfl (by decide) rfl (fun r hc => mb_21_83_50 hM es hc)
      rw [← er5] at h es
      have er := qa_ri (qa_e rfl h)
      subst er
      have e0 : ma_16_83_50 N a2 σ = (r5.1, r5.2) := by exact Eq.trans (if_neg c1) (Eq.trans (if_pos c2) (Eq.trans (qa_ie er5) (rfl)))
      rw [e0]
      exact ⟨rfl, hM, es⟩
    · by_cases c3 : (σ 84 a2.toNatClampNeg) = (116 : Int32)
      · replace h := qa_ls (T := 58) (q := 58) (qa_e rfl h) (by rw [Op.lookupswitch.offset_cons, if_neg (qa_sn c1 (by decide))]; rw [Op.lookupswitch.offset_cons, if_neg (qa_sn c2 (by decide))]; rw [Op.lookupswitch.offset_cons, if_pos (qa_sp c3 (by decide))]) rfl
        replace h := qa_aload (n := 0) (q := 59) (qa_e rfl h) rfl g0
        replace h := qa_aload (n := 1) (q := 60) (qa_e rfl h) rfl g1
        replace h := qa_iload (n := 2) (q := 61) (qa_e rfl h) rfl g2
        replace h := qa_push (z := (1 : Int32)) (q := 62) (qa_e rfl h) rfl (by decide)
        replace h := qa_iadd (q := 63) (qa_e rfl h) rfl
        obtain ⟨r6, er6⟩ : ∃ x, x = (ma_23_83_50 (a2 + (1 : Int32)) σ) := ⟨_, rfl⟩
        obtain ⟨M, h, hM, es⟩ := qa_c1 (y := 23) (as := [.ref 83, .ref 50, .int ((a2 + (1 : Int32)))]) (rest := []) (i := .invokevirtual 23) (q := 66) (qa_e rfl h) (Or.inl rfl) rfl rfl (by decide) rfl (fun r hc => mb_23_83_50 hM es hc)
        rw [← er6] at h es
        have er := qa_ri (qa_e rfl h)
        subst er
        have e0 : ma_16_83_50 N a2 σ = (r6.1, r6.2) := by exact Eq.trans (if_neg c1) (Eq.trans (if_neg c2) (Eq.trans (if_pos c3) (Eq.trans (qa_ie er6) (rfl))))
        rw [e0]
        exact ⟨rfl, hM, es⟩
      · replace h := qa_ls (T := 67) (q := 67) (qa_e rfl h) (by rw [Op.lookupswitch.offset_cons, if_neg (qa_sn c1 (by decide))]; rw [Op.lookupswitch.offset_cons, if_neg (qa_sn c2 (by decide))]; rw [Op.lookupswitch.offset_cons, if_neg (qa_sn c3 (by decide))]; rfl) rfl
        replace h := qa_aload (n := 0) (q := 68) (qa_e rfl h) rfl g0
        replace h := qa_aload (n := 1) (q := 69) (qa_e rfl h) rfl g1
        replace h := qa_iload (n := 2) (q := 70) (qa_e rfl h) rfl g2
        replace h := qa_push (z := (1 : Int32)) (q := 71) (qa_e rfl h) rfl (by decide)
        replace h := qa_iadd (q := 72) (qa_e rfl h) rfl
        obtain ⟨r7, er7⟩ : ∃ x, x = (ma_25_83_50 (a2 + (1 : Int32)) σ) := ⟨_, rfl⟩
        obtain ⟨M, h, hM, es⟩ := qa_c1 (y := 25) (as := [.ref 83, .ref 50, .int ((a2 + (1 : Int32)))]) (rest := []) (i := .invokevirtual 25) (q := 75) (qa_e rfl h) (Or.inl rfl) rfl rfl (by decide) rfl (fun r hc => mb_25_83_50 hM es hc)
        rw [← er7] at h es
        have er := qa_ri (qa_e rfl h)
        subst er
        have e0 : ma_16_83_50 N a2 σ = (r7.1, r7.2) := by exact Eq.trans (if_neg c1) (Eq.trans (if_neg c2) (Eq.trans (if_neg c3) (Eq.trans (qa_ie er7) (rfl))))
        rw [e0]
        exact ⟨rfl, hM, es⟩
noncomputable def mc_13_83_50_p20 (N : Nat) (s : Int32 × Int32 × qa_S) : (Int32 × Int32 × qa_S) ⊕ ((Int32 × qa_S) ⊕ (Int32 × Int32 × qa_S)) :=
  if s.2.1 < (s.2.2 83 0) then
    qa_in ((ma_16_83_50 N s.2.1 s.2.2)) fun r2 =>
    if r2.1 = (0 : Int32) then
      .inr (.inl (((-2000 : Int32) - s.2.1), r2.2))
    else
      .inl ((s.1 + (1 : Int32)), (s.2.1 + ((1 : Int32) + (ma_15 (r2.2 84 s.2.1.toNatClampNeg)))), r2.2)
  else
    .inr (.inr (s.1, s.2.1, s.2.2))
theorem md_13_83_50_p20 {N F : Nat} {r : Option Value × q4_M} (hN : F ≤ N) : ∀ f n, f ≤ n → f ≤ F → ∀ (s : Int32 × Int32 × qa_S) (lv : List (Nat × Value)) (M : q4_M), qa_O M → qa_s M = s.2.2 → q4_get lv 0 = some (.ref 83) → q4_get lv 1 = some (.ref 50) → q4_get lv 3 = some (.int (s.1)) → q4_get lv 4 = some (.int (s.2.1)) → q4_run f 13 20 lv [] M 0 0 = some r → (∀ b, (qa_wh (fun s => .inr s) (mc_13_83_50_p20 N) n s) = .inl b → r.1 = some (.int (b.1)) ∧ qa_O r.2 ∧ qa_s r.2 = b.2) ∧ (∀ b, (qa_wh (fun s => .inr s) (mc_13_83_50_p20 N) n s) = .inr b → ∃ lv M, q4_run F 13 69 lv [] M 0 0 = some r ∧ qa_O M ∧ qa_s M = b.2.2 ∧ q4_get lv 3 = some (.int (b.1))) := by
  intro f
  induction f with
  | zero => intro n _ _ s lv M hM es _ _ _ _ h; cases h
  | succ f ih =>
    intro n hn hF s lv M hM es g0 g1 g3 g4 h
    obtain ⟨n, rfl⟩ : ∃ n1, n = n1 + 1 := ⟨n - 1, by omega⟩
    replace hn : f ≤ n := Nat.le_of_succ_le_succ hn
    have hN := Nat.le_trans (Nat.le_of_succ_le hF) hN
    replace h := qa_iload (n := 4) (q := 22) (qa_d rfl h) rfl g4
    replace h := qa_aload (n := 0) (q := 23) (qa_e rfl h) rfl g0
    replace h := qa_gi (j := 0) (q := 26) (qa_e rfl h) rfl hM es rfl (by decide)
    by_cases c1 : s.2.1 < (s.2.2 83 0)
    · replace h := qa_iff (q := 29) (qa_e rfl h) rfl (qa_F_ge c1)
      replace h := qa_aload (n := 0) (q := 30) (qa_e rfl h) rfl g0
      replace h := qa_aload (n := 1) (q := 31) (qa_e rfl h) rfl g1
      replace h := qa_iload (n := 4) (q := 33) (qa_e rfl h) rfl g4
      obtain ⟨r2, er2⟩ : ∃ x, x = (ma_16_83_50 N s.2.1 s.2.2) := ⟨_, rfl⟩
      obtain ⟨M, h, hM, es⟩ := qa_c1 (y := 16) (as := [.ref 83, .ref 50, .int (s.2.1)]) (rest := []) (i := .invokevirtual 16) (q := 36) (qa_e rfl h) (Or.inl rfl) rfl rfl (by decide) rfl (fun r hc => mb_16_83_50 hN hM es hc)
      rw [← er2] at h es
      by_cases c3 : r2.1 = (0 : Int32)
      · replace h := qa_icf (q := 39) (qa_e rfl h) rfl (qa_F_ne c3)
        replace h := qa_push (z := (-2000 : Int32)) (q := 42) (qa_e rfl h) rfl (by decide)
        replace h := qa_iload (n := 4) (q := 44) (qa_e rfl h) rfl g4
        replace h := qa_isub (q := 45) (qa_e rfl h) rfl
        have er := qa_ri (qa_e rfl h)
        subst er
        have e0 : mc_13_83_50_p20 N s = .inr (.inl (((-2000 : Int32) - s.2.1), r2.2)) := by exact Eq.trans (if_pos c1) (Eq.trans (qa_ie er2) (Eq.trans (if_pos c3) (rfl)))
        rw [qa_whr e0]
        exact ⟨fun b hb => (by have e := Sum.inl.inj hb; subst e; exact ⟨rfl, hM, es⟩), fun b hb => nomatch hb⟩
      · replace h := qa_ict (q := 46) (qa_e rfl h) rfl (qa_T_ne c3)
        obtain ⟨lv, h, g, T⟩ := qa_iinc (n := 3) (z := (1 : Int32)) (q := 49) (qa_e rfl h) rfl (by decide) g3
        replace g0 := T _ _ g0 (by decide) (Or.inr rfl)
        replace g1 := T _ _ g1 (by decide) (Or.inr rfl)
        replace g4 := T _ _ g4 (by decide) (Or.inr rfl)
        replace g3 := g
        clear g T
        replace h := qa_iload (n := 4) (q := 51) (qa_e rfl h) rfl g4
        replace h := qa_push (z := (1 : Int32)) (q := 52) (qa_e rfl h) rfl (by decide)
        replace h := qa_aload (n := 0) (q := 53) (qa_e rfl h) rfl g0
        replace h := qa_gr (b := 84) (j := 1) (q := 56) (qa_e rfl h) rfl hM rfl (by decide)
        replace h := qa_iload (n := 4) (q := 58) (qa_e rfl h) rfl g4
        replace h := qa_iaload (jn := s.2.1.toNatClampNeg) (q := 59) (qa_e rfl h) rfl hM es rfl
        obtain ⟨M, h, hM, es⟩ := qa_c1 (y := 15) (as := [.int ((r2.2 84 s.2.1.toNatClampNeg))]) (rest := [.int ((1 : Int32)), .int (s.2.1)]) (i := .invokestatic 15) (q := 62) (qa_e rfl h) (Or.inr rfl) rfl rfl (by decide) rfl (fun r hc => mb_15 hM es hc)
        replace h := qa_iadd (q := 63) (qa_e rfl h) rfl
        replace h := qa_iadd (q := 64) (qa_e rfl h) rfl
        obtain ⟨lv, h, g, T⟩ := qa_istore (n := 4) (q := 66) (qa_e rfl h) rfl
        replace g0 := T _ _ g0 (by decide) (Or.inr rfl)
        replace g1 := T _ _ g1 (by decide) (Or.inr rfl)
        replace g3 := T _ _ g3 (by decide) (Or.inr rfl)
        have g4 := g
        clear g T
        replace h := qa_goto (q := 20) (qa_e rfl h) rfl
        have e0 : mc_13_83_50_p20 N s = .inl ((s.1 + (1 : Int32)), (s.2.1 + ((1 : Int32) + (ma_15 (r2.2 84 s.2.1.toNatClampNeg)))), r2.2) := by exact Eq.trans (if_pos c1) (Eq.trans (qa_ie er2) (Eq.trans (if_neg c3) (rfl)))
        rw [qa_whl e0]
        exact ih n hn (Nat.le_of_succ_le hF) ((s.1 + (1 : Int32)), (s.2.1 + ((1 : Int32) + (ma_15 (r2.2 84 s.2.1.toNatClampNeg)))), r2.2) _ _ hM es g0 g1 g3 g4 h
    · replace h := qa_ift (q := 69) (qa_e rfl h) rfl (qa_T_ge c1)
      have e0 : mc_13_83_50_p20 N s = .inr (.inr (s.1, s.2.1, s.2.2)) := by exact Eq.trans (if_neg c1) (rfl)
      rw [qa_whr e0]
      exact ⟨fun b hb => (nomatch hb), fun b hb => (by have e := Sum.inr.inj hb; subst e; exact ⟨_, _, q61_mono f F _ _ _ _ _ _ _ _ (Nat.le_of_succ_le hF) h, hM, es, g3⟩)⟩
/-- BuriedBySevens$Text, readInto, (LBuriedBySevens$Cellar;)I -/
noncomputable def ma_13_83_50 (N : Nat) (σ : qa_S) : Int32 × qa_S :=
  qa_in ((ma_14_83 N σ)) fun r1 =>
  if r1 < (0 : Int32) then
    qa_in ((qa_wh (fun s => .inr s) (mc_13_83_50_p20 N) N ((0 : Int32), (0 : Int32), σ))) fun r3 =>
    qa_cs r3
      (fun b4 =>
        (b4.1, b4.2))
      (fun b4 =>
        (b4.1, b4.2.2))
  else
    (((-1000 : Int32) - r1), σ)
theorem mb_13_83_50 {f N : Nat} (hN : f ≤ N) {M : q4_M} {r : Option Value × q4_M} {σ : qa_S} (hM : qa_O M) (es : qa_s M = σ) (h : q4_run f 13 0 (lv_args 0 [.ref 83, .ref 50]) [] M 0 0 = some r) : r.1 = some (.int ((ma_13_83_50 N σ).1)) ∧ qa_O r.2 ∧ qa_s r.2 = (ma_13_83_50 N σ).2 := by
  obtain ⟨lv, el⟩ : ∃ l, l = lv_args 0 [.ref 83, .ref 50] := ⟨_, rfl⟩
  have g0 : q4_get lv 0 = some (.ref 83) := by rw [el]; rfl
  have g1 : q4_get lv 1 = some (.ref 50) := by rw [el]; rfl
  rw [← el] at h
  clear el
  replace h := qa_aload (n := 0) (q := 1) (qa_e rfl h) rfl g0
  obtain ⟨r1, er1⟩ : ∃ x, x = (ma_14_83 N σ) := ⟨_, rfl⟩
  obtain ⟨M, h, hM, es⟩ := qa_c1 (y := 14) (as := [.ref 83]) (rest := []) (i := .invokevirtual 14) (q := 4) (qa_e rfl h) (Or.inl rfl) rfl rfl (by decide) rfl (fun r hc => mb_14_83 hN hM es hc)
  rw [← er1] at h
  obtain ⟨lv, h, g, T⟩ := qa_istore (n := 2) (q := 5) (qa_e rfl h) rfl
  replace g0 := T _ _ g0 (by decide) (Or.inr rfl)
  replace g1 := T _ _ g1 (by decide) (Or.inr rfl)
  have g2 := g
  clear g T
  replace h := qa_iload (n := 2) (q := 6) (qa_e rfl h) rfl g2
  by_cases c2 : r1 < (0 : Int32)
  · replace h := qa_ict (q := 15) (qa_e rfl h) rfl (qa_T_lt c2)
    replace h := qa_push (z := (0 : Int32)) (q := 16) (qa_e rfl h) rfl (by decide)
    obtain ⟨lv, h, g, T⟩ := qa_istore (n := 3) (q := 17) (qa_e rfl h) rfl
    replace g0 := T _ _ g0 (by decide) (Or.inr rfl)
    replace g1 := T _ _ g1 (by decide) (Or.inr rfl)
    have g3 := g
    clear g T
    replace h := qa_push (z := (0 : Int32)) (q := 18) (qa_e rfl h) rfl (by decide)
    obtain ⟨lv, h, g, T⟩ := qa_istore (n := 4) (q := 20) (qa_e rfl h) rfl
    replace g0 := T _ _ g0 (by decide) (Or.inr rfl)
    replace g1 := T _ _ g1 (by decide) (Or.inr rfl)
    replace g3 := T _ _ g3 (by decide) (Or.inr rfl)
    have g4 := g
    clear g T
    obtain ⟨r3, er3⟩ : ∃ x, x = (qa_wh (fun s => .inr s) (mc_13_83_50_p20 N) N ((0 : Int32), (0 : Int32), σ)) := ⟨_, rfl⟩
    have L := md_13_83_50_p20 (F := f) (N := N) (r := r) hN f N hN (Nat.le_refl f) ((0 : Int32), (0 : Int32), σ) _ _ hM es g0 g1 g3 g4 h
    rw [← er3] at L
    rcases qr3 : r3 with b4 | b4
    · obtain ⟨h, hM, es⟩ := L.1 b4 qr3
      have e0 : ma_13_83_50 N σ = (b4.1, b4.2) := by exact Eq.trans (qa_ie er1) (Eq.trans (if_pos c2) (Eq.trans (qa_ie er3) (Eq.trans (qa_csl qr3 _ _) (rfl))))
      rw [e0]
      exact ⟨h, hM, es⟩
    · obtain ⟨lv, M, h, hM, es, g3⟩ := L.2 b4 qr3
      replace h := qa_iload (n := 3) (q := 70) (qa_e rfl h) rfl g3
      have er := qa_ri (qa_e rfl h)
      subst er
      have e0 : ma_13_83_50 N σ = (b4.1, b4.2.2) := by exact Eq.trans (qa_ie er1) (Eq.trans (if_pos c2) (Eq.trans (qa_ie er3) (Eq.trans (qa_csr qr3 _ _) (rfl))))
      rw [e0]
      exact ⟨rfl, hM, es⟩
  · replace h := qa_icf (q := 9) (qa_e rfl h) rfl (qa_F_lt c2)
    replace h := qa_push (z := (-1000 : Int32)) (q := 12) (qa_e rfl h) rfl (by decide)
    replace h := qa_iload (n := 2) (q := 13) (qa_e rfl h) rfl g2
    replace h := qa_isub (q := 14) (qa_e rfl h) rfl
    have er := qa_ri (qa_e rfl h)
    subst er
    have e0 : ma_13_83_50 N σ = (((-1000 : Int32) - r1), σ) := by exact Eq.trans (qa_ie er1) (Eq.trans (if_neg c2) (rfl))
    rw [e0]
    exact ⟨rfl, hM, es⟩
noncomputable def mc_12_4_50_p63 (N : Nat) (s : Int32 × qa_S) : (Int32 × qa_S) ⊕ (Int32 × qa_S) :=
  if s.1 < (7 : Int32) then
    qa_in (qa_cp s.2 (55 + s.1.toNatClampNeg) 0 (9 + s.1.toNatClampNeg) 0 4) fun m2 =>
    .inl ((s.1 + (1 : Int32)), m2)
  else
    .inr (s.1, s.2)
theorem md_12_4_50_p63 {N F : Nat} {r : Option Value × q4_M} (hN : F ≤ N) : ∀ f n, f ≤ n → f ≤ F → ∀ (s : Int32 × qa_S) (lv : List (Nat × Value)) (M : q4_M), qa_O M → qa_s M = s.2 → q4_get lv 0 = some (.ref 4) → q4_get lv 1 = some (.ref 50) → q4_get lv 2 = some (.int (s.1)) → q4_run f 12 63 lv [] M 0 0 = some r → ∃ lv M, q4_run F 12 93 lv [] M 0 0 = some r ∧ qa_O M ∧ qa_s M = (qa_wh (fun s => s) (mc_12_4_50_p63 N) n s).2 ∧ q4_get lv 0 = some (.ref 4) ∧ q4_get lv 1 = some (.ref 50) := by
  intro f
  induction f with
  | zero => intro n _ _ s lv M hM es _ _ _ h; cases h
  | succ f ih =>
    intro n hn hF s lv M hM es g0 g1 g2 h
    obtain ⟨n, rfl⟩ : ∃ n1, n = n1 + 1 := ⟨n - 1, by omega⟩
    replace hn : f ≤ n := Nat.le_of_succ_le_succ hn
    have hN := Nat.le_trans (Nat.le_of_succ_le hF) hN
    replace h := qa_iload (n := 2) (q := 64) (qa_d rfl h) rfl g2
    replace h := qa_push (z := (7 : Int32)) (q := 66) (qa_e rfl h) rfl (by decide)
    by_cases c1 : s.1 < (7 : Int32)
    · replace h := qa_iff (q := 69) (qa_e rfl h) rfl (qa_F_ge c1)
      replace h := qa_aload (n := 1) (q := 70) (qa_e rfl h) rfl g1
      replace h := qa_gr (b := 54) (j := 5) (q := 73) (qa_e rfl h) rfl hM rfl (by decide)
      replace h := qa_iload (n := 2) (q := 74) (qa_e rfl h) rfl g2
      replace h := qa_aaload (b := 55) (jn := s.1.toNatClampNeg) (q := 75) (qa_e rfl h) rfl hM rfl (by decide) (by decide +kernel)
      replace h := qa_push (z := (0 : Int32)) (q := 76) (qa_e rfl h) rfl (by decide)
      replace h := qa_aload (n := 0) (q := 77) (qa_e rfl h) rfl g0
      replace h := qa_gr (b := 8) (j := 5) (q := 80) (qa_e rfl h) rfl hM rfl (by decide)
      replace h := qa_iload (n := 2) (q := 81) (qa_e rfl h) rfl g2
      replace h := qa_aaload (b := 9) (jn := s.1.toNatClampNeg) (q := 82) (qa_e rfl h) rfl hM rfl (by decide) (by decide +kernel)
      replace h := qa_push (z := (0 : Int32)) (q := 83) (qa_e rfl h) rfl (by decide)
      replace h := qa_push (z := (4 : Int32)) (q := 84) (qa_e rfl h) rfl (by decide)
      obtain ⟨m2, em2⟩ : ∃ x, x = qa_cp s.2 (55 + s.1.toNatClampNeg) 0 (9 + s.1.toNatClampNeg) 0 4 := ⟨_, rfl⟩
      obtain ⟨M, h, hM, es⟩ := qa_ac (sn := 0) (dn := 0) (nn := 4) (q := 87) (qa_e rfl h) rfl hM es (by decide) (by decide) (by decide)
      rw [← em2] at es
      obtain ⟨lv, h, g, T⟩ := qa_iinc (n := 2) (z := (1 : Int32)) (q := 90) (qa_e rfl h) rfl (by decide) g2
      replace g0 := T _ _ g0 (by decide) (Or.inr rfl)
      replace g1 := T _ _ g1 (by decide) (Or.inr rfl)
      replace g2 := g
      clear g T
      replace h := qa_goto (q := 63) (qa_e rfl h) rfl
      have e0 : mc_12_4_50_p63 N s = .inl ((s.1 + (1 : Int32)), m2) := by exact Eq.trans (if_pos c1) (Eq.trans (qa_ie em2) (rfl))
      rw [qa_whl e0]
      exact ih n hn (Nat.le_of_succ_le hF) ((s.1 + (1 : Int32)), m2) _ _ hM es g0 g1 g2 h
    · replace h := qa_ift (q := 93) (qa_e rfl h) rfl (qa_T_ge c1)
      have e0 : mc_12_4_50_p63 N s = .inr (s.1, s.2) := by exact Eq.trans (if_neg c1) (rfl)
      rw [qa_whr e0]
      exact ⟨_, _, q61_mono f F _ _ _ _ _ _ _ _ (Nat.le_of_succ_le hF) h, hM, es, g0, g1⟩
/-- BuriedBySevens$Cellar, become, (LBuriedBySevens$Cellar;)V -/
noncomputable def ma_12_4_50 (N : Nat) (σ : qa_S) : qa_S :=
  qa_in (qa_u σ 4 0 (σ 50 0)) fun m1 =>
  qa_in (qa_u m1 4 1 (m1 50 1)) fun m2 =>
  qa_in (qa_cp m2 51 0 5 0 7) fun m3 =>
  qa_in (qa_cp m3 52 0 6 0 7) fun m4 =>
  qa_in (qa_cp m4 53 0 7 0 7) fun m5 =>
  qa_in ((qa_wh (fun s => s) (mc_12_4_50_p63 N) N ((0 : Int32), m5))) fun r6 =>
  qa_in (qa_cp r6.2 70 0 24 0 6) fun m7 =>
  qa_in (qa_cp m7 71 0 25 0 6) fun m8 =>
  qa_in (qa_cp m8 72 0 26 0 6) fun m9 =>
  m9
theorem mb_12_4_50 {f N : Nat} (hN : f ≤ N) {M : q4_M} {r : Option Value × q4_M} {σ : qa_S} (hM : qa_O M) (es : qa_s M = σ) (h : q4_run f 12 0 (lv_args 0 [.ref 4, .ref 50]) [] M 0 0 = some r) : r.1 = none ∧ qa_O r.2 ∧ qa_s r.2 = (ma_12_4_50 N σ) := by
  obtain ⟨lv, el⟩ : ∃ l, l = lv_args 0 [.ref 4, .ref 50] := ⟨_, rfl⟩
  have g0 : q4_get lv 0 = some (.ref 4) := by rw [el]; rfl
  have g1 : q4_get lv 1 = some (.ref 50) := by rw [el]; rfl
  rw [← el] at h
  clear el
  replace h := qa_aload (n := 0) (q := 1) (qa_e rfl h) rfl g0
  replace h := qa_aload (n := 1) (q := 2) (qa_e rfl h) rfl g1
  replace h := qa_gi (j := 0) (q := 5) (qa_e rfl h) rfl hM es rfl (by decide)
  obtain ⟨m1, em1⟩ : ∃ x, x = qa_u σ 4 0 (σ 50 0) := ⟨_, rfl⟩
  obtain ⟨M, h, hM, es⟩ := qa_pf (j := 0) (q := 8) (qa_e rfl h) rfl hM es rfl (by decide)
  rw [← em1] at es
  replace h := qa_aload (n := 0) (q := 9) (qa_e rfl h) rfl g0
  replace h := qa_aload (n := 1) (q := 10) (qa_e rfl h) rfl g1
  replace h := qa_gi (j := 1) (q := 13) (qa_e rfl h) rfl hM es rfl (by decide)
  obtain ⟨m2, em2⟩ : ∃ x, x = qa_u m1 4 1 (m1 50 1) := ⟨_, rfl⟩
  obtain ⟨M, h, hM, es⟩ := qa_pf (j := 1) (q := 16) (qa_e rfl h) rfl hM es rfl (by decide)
  rw [← em2] at es
  replace h := qa_aload (n := 1) (q := 17) (qa_e rfl h) rfl g1
  replace h := qa_gr (b := 51) (j := 2) (q := 20) (qa_e rfl h) rfl hM rfl (by decide)
  replace h := qa_push (z := (0 : Int32)) (q := 21) (qa_e rfl h) rfl (by decide)
  replace h := qa_aload (n := 0) (q := 22) (qa_e rfl h) rfl g0
  replace h := qa_gr (b := 5) (j := 2) (q := 25) (qa_e rfl h) rfl hM rfl (by decide)
  replace h := qa_push (z := (0 : Int32)) (q := 26) (qa_e rfl h) rfl (by decide)
  replace h := qa_push (z := (7 : Int32)) (q := 28) (qa_e rfl h) rfl (by decide)
  obtain ⟨m3, em3⟩ : ∃ x, x = qa_cp m2 51 0 5 0 7 := ⟨_, rfl⟩
  obtain ⟨M, h, hM, es⟩ := qa_ac (sn := 0) (dn := 0) (nn := 7) (q := 31) (qa_e rfl h) rfl hM es (by decide) (by decide) (by decide)
  rw [← em3] at es
  replace h := qa_aload (n := 1) (q := 32) (qa_e rfl h) rfl g1
  replace h := qa_gr (b := 52) (j := 3) (q := 35) (qa_e rfl h) rfl hM rfl (by decide)
  replace h := qa_push (z := (0 : Int32)) (q := 36) (qa_e rfl h) rfl (by decide)
  replace h := qa_aload (n := 0) (q := 37) (qa_e rfl h) rfl g0
  replace h := qa_gr (b := 6) (j := 3) (q := 40) (qa_e rfl h) rfl hM rfl (by decide)
  replace h := qa_push (z := (0 : Int32)) (q := 41) (qa_e rfl h) rfl (by decide)
  replace h := qa_push (z := (7 : Int32)) (q := 43) (qa_e rfl h) rfl (by decide)
  obtain ⟨m4, em4⟩ : ∃ x, x = qa_cp m3 52 0 6 0 7 := ⟨_, rfl⟩
  obtain ⟨M, h, hM, es⟩ := qa_ac (sn := 0) (dn := 0) (nn := 7) (q := 46) (qa_e rfl h) rfl hM es (by decide) (by decide) (by decide)
  rw [← em4] at es
  replace h := qa_aload (n := 1) (q := 47) (qa_e rfl h) rfl g1
  replace h := qa_gr (b := 53) (j := 4) (q := 50) (qa_e rfl h) rfl hM rfl (by decide)
  replace h := qa_push (z := (0 : Int32)) (q := 51) (qa_e rfl h) rfl (by decide)
  replace h := qa_aload (n := 0) (q := 52) (qa_e rfl h) rfl g0
  replace h := qa_gr (b := 7) (j := 4) (q := 55) (qa_e rfl h) rfl hM rfl (by decide)
  replace h := qa_push (z := (0 : Int32)) (q := 56) (qa_e rfl h) rfl (by decide)
  replace h := qa_push (z := (7 : Int32)) (q := 58) (qa_e rfl h) rfl (by decide)
  obtain ⟨m5, em5⟩ : ∃ x, x = qa_cp m4 53 0 7 0 7 := ⟨_, rfl⟩
  obtain ⟨M, h, hM, es⟩ := qa_ac (sn := 0) (dn := 0) (nn := 7) (q := 61) (qa_e rfl h) rfl hM es (by decide) (by decide) (by decide)
  rw [← em5] at es
  replace h := qa_push (z := (0 : Int32)) (q := 62) (qa_e rfl h) rfl (by decide)
  obtain ⟨lv, h, g, T⟩ := qa_istore (n := 2) (q := 63) (qa_e rfl h) rfl
  replace g0 := T _ _ g0 (by decide) (Or.inr rfl)
  replace g1 := T _ _ g1 (by decide) (Or.inr rfl)
  have g2 := g
  clear g T
  obtain ⟨r6, er6⟩ : ∃ x, x = (qa_wh (fun s => s) (mc_12_4_50_p63 N) N ((0 : Int32), m5)) := ⟨_, rfl⟩
  have L := md_12_4_50_p63 (F := f) (N := N) (r := r) hN f N hN (Nat.le_refl f) ((0 : Int32), m5) _ _ hM es g0 g1 g2 h
  rw [← er6] at L
  obtain ⟨lv, M, h, hM, es, g0, g1⟩ := L
  replace h := qa_aload (n := 1) (q := 94) (qa_e rfl h) rfl g1
  replace h := qa_gr (b := 70) (j := 7) (q := 97) (qa_e rfl h) rfl hM rfl (by decide)
  replace h := qa_push (z := (0 : Int32)) (q := 98) (qa_e rfl h) rfl (by decide)
  replace h := qa_aload (n := 0) (q := 99) (qa_e rfl h) rfl g0
  replace h := qa_gr (b := 24) (j := 7) (q := 102) (qa_e rfl h) rfl hM rfl (by decide)
  replace h := qa_push (z := (0 : Int32)) (q := 103) (qa_e rfl h) rfl (by decide)
  replace h := qa_push (z := (6 : Int32)) (q := 105) (qa_e rfl h) rfl (by decide)
  obtain ⟨m7, em7⟩ : ∃ x, x = qa_cp r6.2 70 0 24 0 6 := ⟨_, rfl⟩
  obtain ⟨M, h, hM, es⟩ := qa_ac (sn := 0) (dn := 0) (nn := 6) (q := 108) (qa_e rfl h) rfl hM es (by decide) (by decide) (by decide)
  rw [← em7] at es
  replace h := qa_aload (n := 1) (q := 109) (qa_e rfl h) rfl g1
  replace h := qa_gr (b := 71) (j := 8) (q := 112) (qa_e rfl h) rfl hM rfl (by decide)
  replace h := qa_push (z := (0 : Int32)) (q := 113) (qa_e rfl h) rfl (by decide)
  replace h := qa_aload (n := 0) (q := 114) (qa_e rfl h) rfl g0
  replace h := qa_gr (b := 25) (j := 8) (q := 117) (qa_e rfl h) rfl hM rfl (by decide)
  replace h := qa_push (z := (0 : Int32)) (q := 118) (qa_e rfl h) rfl (by decide)
  replace h := qa_push (z := (6 : Int32)) (q := 120) (qa_e rfl h) rfl (by decide)
  obtain ⟨m8, em8⟩ : ∃ x, x = qa_cp m7 71 0 25 0 6 := ⟨_, rfl⟩
  obtain ⟨M, h, hM, es⟩ := qa_ac (sn := 0) (dn := 0) (nn := 6) (q := 123) (qa_e rfl h) rfl hM es (by decide) (by decide) (by decide)
  rw [← em8] at es
  replace h := qa_aload (n := 1) (q := 124) (qa_e rfl h) rfl g1
  replace h := qa_gr (b := 72) (j := 9) (q := 127) (qa_e rfl h) rfl hM rfl (by decide)
  replace h := qa_push (z := (0 : Int32)) (q := 128) (qa_e rfl h) rfl (by decide)
  replace h := qa_aload (n := 0) (q := 129) (qa_e rfl h) rfl g0
  replace h := qa_gr (b := 26) (j := 9) (q := 132) (qa_e rfl h) rfl hM rfl (by decide)
  replace h := qa_push (z := (0 : Int32)) (q := 133) (qa_e rfl h) rfl (by decide)
  replace h := qa_push (z := (6 : Int32)) (q := 135) (qa_e rfl h) rfl (by decide)
  obtain ⟨m9, em9⟩ : ∃ x, x = qa_cp m8 72 0 26 0 6 := ⟨_, rfl⟩
  obtain ⟨M, h, hM, es⟩ := qa_ac (sn := 0) (dn := 0) (nn := 6) (q := 138) (qa_e rfl h) rfl hM es (by decide) (by decide) (by decide)
  rw [← em9] at es
  have er := qa_rv (qa_e rfl h)
  subst er
  have e0 : ma_12_4_50 N σ = m9 := by exact Eq.trans (qa_ie em1) (Eq.trans (qa_ie em2) (Eq.trans (qa_ie em3) (Eq.trans (qa_ie em4) (Eq.trans (qa_ie em5) (Eq.trans (qa_ie er6) (Eq.trans (qa_ie em7) (Eq.trans (qa_ie em8) (Eq.trans (qa_ie em9) (rfl)))))))))
  rw [e0]
  exact ⟨rfl, hM, es⟩
/-- BuriedBySevens$Cellar, tasteByKind, (II)I -/
noncomputable def ma_30_4 (a1 : Int32) (a2 : Int32) (σ : qa_S) : Int32 :=
  if (σ 5 a1.toNatClampNeg) = (1 : Int32) then
    (((3 : Int32) * (σ (9 + a1.toNatClampNeg) a2.toNatClampNeg)) + (σ 6 a1.toNatClampNeg))
  else
    if (σ 5 a1.toNatClampNeg) = (2 : Int32) then
      (((3 : Int32) * (σ (9 + a1.toNatClampNeg) a2.toNatClampNeg)) / (2 : Int32))
    else
      if (σ 5 a1.toNatClampNeg) = (3 : Int32) then
        ((2 : Int32) * (((3 : Int32) * (σ (9 + a1.toNatClampNeg) a2.toNatClampNeg)) + (σ 6 a1.toNatClampNeg)))
      else
        if (σ 5 a1.toNatClampNeg) = (4 : Int32) then
          (0 : Int32)
        else
          if (σ 5 a1.toNatClampNeg) = (5 : Int32) then
            (if a1 = (0 : Int32) then ((3 : Int32) * (σ (9 + a1.toNatClampNeg) a2.toNatClampNeg)) else ((((3 : Int32) * (σ (9 + a1.toNatClampNeg) a2.toNatClampNeg)) + (σ (17 + (a1 - (1 : Int32)).toNatClampNeg) a2.toNatClampNeg)) / (2 : Int32)))
          else
            ((3 : Int32) * (σ (9 + a1.toNatClampNeg) a2.toNatClampNeg))
theorem mb_30_4 {f : Nat} {M : q4_M} {r : Option Value × q4_M} {σ : qa_S} {a1 : Int32} {a2 : Int32} (hM : qa_O M) (es : qa_s M = σ) (h : q4_run f 30 0 (lv_args 0 [.ref 4, .int (a1), .int (a2)]) [] M 0 0 = some r) : r.1 = some (.int ((ma_30_4 a1 a2 σ))) ∧ qa_O r.2 ∧ qa_s r.2 = σ := by
  obtain ⟨lv, el⟩ : ∃ l, l = lv_args 0 [.ref 4, .int (a1), .int (a2)] := ⟨_, rfl⟩
  have g0 : q4_get lv 0 = some (.ref 4) := by rw [el]; rfl
  have g1 : q4_get lv 1 = some (.int (a1)) := by rw [el]; rfl
  have g2 : q4_get lv 2 = some (.int (a2)) := by rw [el]; rfl
  rw [← el] at h
  clear el
  replace h := qa_push (z := (3 : Int32)) (q := 1) (qa_e rfl h) rfl (by decide)
  replace h := qa_aload (n := 0) (q := 2) (qa_e rfl h) rfl g0
  replace h := qa_gr (b := 8) (j := 5) (q := 5) (qa_e rfl h) rfl hM rfl (by decide)
  replace h := qa_iload (n := 1) (q := 6) (qa_e rfl h) rfl g1
  replace h := qa_aaload (b := 9) (jn := a1.toNatClampNeg) (q := 7) (qa_e rfl h) rfl hM rfl (by decide) (by decide +kernel)
  replace h := qa_iload (n := 2) (q := 8) (qa_e rfl h) rfl g2
  replace h := qa_iaload (jn := a2.toNatClampNeg) (q := 9) (qa_e rfl h) rfl hM es rfl
  replace h := qa_imul (q := 10) (qa_e rfl h) rfl
  obtain ⟨lv, h, g, T⟩ := qa_istore (n := 3) (q := 11) (qa_e rfl h) rfl
  replace g0 := T _ _ g0 (by decide) (Or.inr rfl)
  replace g1 := T _ _ g1 (by decide) (Or.inr rfl)
  replace g2 := T _ _ g2 (by decide) (Or.inr rfl)
  have g3 := g
  clear g T
  replace h := qa_aload (n := 0) (q := 12) (qa_e rfl h) rfl g0
  replace h := qa_gr (b := 5) (j := 2) (q := 15) (qa_e rfl h) rfl hM rfl (by decide)
  replace h := qa_iload (n := 1) (q := 16) (qa_e rfl h) rfl g1
  replace h := qa_iaload (jn := a1.toNatClampNeg) (q := 17) (qa_e rfl h) rfl hM es rfl
  by_cases c1 : (σ 5 a1.toNatClampNeg) = (1 : Int32)
  · replace h := qa_ts (v := 1) (T := 52) (q := 52) (qa_e rfl h) (qa_sp c1 (by decide)).symm (by decide) rfl rfl
    replace h := qa_iload (n := 3) (q := 53) (qa_e rfl h) rfl g3
    replace h := qa_aload (n := 0) (q := 54) (qa_e rfl h) rfl g0
    replace h := qa_gr (b := 6) (j := 3) (q := 57) (qa_e rfl h) rfl hM rfl (by decide)
    replace h := qa_iload (n := 1) (q := 58) (qa_e rfl h) rfl g1
    replace h := qa_iaload (jn := a1.toNatClampNeg) (q := 59) (qa_e rfl h) rfl hM es rfl
    replace h := qa_iadd (q := 60) (qa_e rfl h) rfl
    have er := qa_ri (qa_e rfl h)
    subst er
    have e0 : ma_30_4 a1 a2 σ = (((3 : Int32) * (σ (9 + a1.toNatClampNeg) a2.toNatClampNeg)) + (σ 6 a1.toNatClampNeg)) := by exact Eq.trans (if_pos c1) (rfl)
    rw [e0]
    exact ⟨rfl, hM, es⟩
  · by_cases c2 : (σ 5 a1.toNatClampNeg) = (2 : Int32)
    · replace h := qa_ts (v := 2) (T := 61) (q := 61) (qa_e rfl h) (qa_sp c2 (by decide)).symm (by decide) rfl rfl
      replace h := qa_iload (n := 3) (q := 62) (qa_e rfl h) rfl g3
      replace h := qa_push (z := (2 : Int32)) (q := 63) (qa_e rfl h) rfl (by decide)
      replace h := qa_idiv (q := 64) (qa_e rfl h) rfl
      have er := qa_ri (qa_e rfl h)
      subst er
      have e0 : ma_30_4 a1 a2 σ = (((3 : Int32) * (σ (9 + a1.toNatClampNeg) a2.toNatClampNeg)) / (2 : Int32)) := by exact Eq.trans (if_neg c1) (Eq.trans (if_pos c2) (rfl))
      rw [e0]
      exact ⟨rfl, hM, es⟩
    · by_cases c3 : (σ 5 a1.toNatClampNeg) = (3 : Int32)
      · replace h := qa_ts (v := 3) (T := 65) (q := 65) (qa_e rfl h) (qa_sp c3 (by decide)).symm (by decide) rfl rfl
        replace h := qa_push (z := (2 : Int32)) (q := 66) (qa_e rfl h) rfl (by decide)
        replace h := qa_iload (n := 3) (q := 67) (qa_e rfl h) rfl g3
        replace h := qa_aload (n := 0) (q := 68) (qa_e rfl h) rfl g0
        replace h := qa_gr (b := 6) (j := 3) (q := 71) (qa_e rfl h) rfl hM rfl (by decide)
        replace h := qa_iload (n := 1) (q := 72) (qa_e rfl h) rfl g1
        replace h := qa_iaload (jn := a1.toNatClampNeg) (q := 73) (qa_e rfl h) rfl hM es rfl
        replace h := qa_iadd (q := 74) (qa_e rfl h) rfl
        replace h := qa_imul (q := 75) (qa_e rfl h) rfl
        have er := qa_ri (qa_e rfl h)
        subst er
        have e0 : ma_30_4 a1 a2 σ = ((2 : Int32) * (((3 : Int32) * (σ (9 + a1.toNatClampNeg) a2.toNatClampNeg)) + (σ 6 a1.toNatClampNeg))) := by exact Eq.trans (if_neg c1) (Eq.trans (if_neg c2) (Eq.trans (if_pos c3) (rfl)))
        rw [e0]
        exact ⟨rfl, hM, es⟩
      · by_cases c4 : (σ 5 a1.toNatClampNeg) = (4 : Int32)
        · replace h := qa_ts (v := 4) (T := 76) (q := 76) (qa_e rfl h) (qa_sp c4 (by decide)).symm (by decide) rfl rfl
          replace h := qa_push (z := (0 : Int32)) (q := 77) (qa_e rfl h) rfl (by decide)
          have er := qa_ri (qa_e rfl h)
          subst er
          have e0 : ma_30_4 a1 a2 σ = (0 : Int32) := by exact Eq.trans (if_neg c1) (Eq.trans (if_neg c2) (Eq.trans (if_neg c3) (Eq.trans (if_pos c4) (rfl))))
          rw [e0]
          exact ⟨rfl, hM, es⟩
        · by_cases c5 : (σ 5 a1.toNatClampNeg) = (5 : Int32)
          · replace h := qa_ts (v := 5) (T := 78) (q := 78) (qa_e rfl h) (qa_sp c5 (by decide)).symm (by decide) rfl rfl
            replace h := qa_iload (n := 1) (q := 79) (qa_e rfl h) rfl g1
            obtain ⟨lv, M, h, hM, es⟩ : ∃ lv M, q4_run f 30 100 lv [.int ((if a1 = (0 : Int32) then ((3 : Int32) * (σ (9 + a1.toNatClampNeg) a2.toNatClampNeg)) else ((((3 : Int32) * (σ (9 + a1.toNatClampNeg) a2.toNatClampNeg)) + (σ (17 + (a1 - (1 : Int32)).toNatClampNeg) a2.toNatClampNeg)) / (2 : Int32))))] M 0 0 = some r ∧ qa_O M ∧ qa_s M = σ := by
              by_cases c6 : a1 = (0 : Int32)
              · replace h := qa_icf (q := 82) (qa_e rfl h) rfl (qa_F_ne c6)
                replace h := qa_iload (n := 3) (q := 83) (qa_e rfl h) rfl g3
                replace h := qa_goto (q := 100) (qa_e rfl h) rfl
                exact ⟨lv, M, (qa_hi1 c6 h), hM, es⟩
              · replace h := qa_ict (q := 86) (qa_e rfl h) rfl (qa_T_ne c6)
                replace h := qa_iload (n := 3) (q := 87) (qa_e rfl h) rfl g3
                replace h := qa_aload (n := 0) (q := 88) (qa_e rfl h) rfl g0
                replace h := qa_gr (b := 16) (j := 6) (q := 91) (qa_e rfl h) rfl hM rfl (by decide)
                replace h := qa_iload (n := 1) (q := 92) (qa_e rfl h) rfl g1
                replace h := qa_push (z := (1 : Int32)) (q := 93) (qa_e rfl h) rfl (by decide)
                replace h := qa_isub (q := 94) (qa_e rfl h) rfl
                replace h := qa_aaload (b := 17) (jn := (a1 - (1 : Int32)).toNatClampNeg) (q := 95) (qa_e rfl h) rfl hM rfl (by decide) (by decide +kernel)
                replace h := qa_iload (n := 2) (q := 96) (qa_e rfl h) rfl g2
                replace h := qa_iaload (jn := a2.toNatClampNeg) (q := 97) (qa_e rfl h) rfl hM es rfl
                replace h := qa_iadd (q := 98) (qa_e rfl h) rfl
                replace h := qa_push (z := (2 : Int32)) (q := 99) (qa_e rfl h) rfl (by decide)
                replace h := qa_idiv (q := 100) (qa_e rfl h) rfl
                exact ⟨lv, M, (qa_hi0 c6 h), hM, es⟩
            have er := qa_ri (qa_e rfl h)
            subst er
            have e0 : ma_30_4 a1 a2 σ = (if a1 = (0 : Int32) then ((3 : Int32) * (σ (9 + a1.toNatClampNeg) a2.toNatClampNeg)) else ((((3 : Int32) * (σ (9 + a1.toNatClampNeg) a2.toNatClampNeg)) + (σ (17 + (a1 - (1 : Int32)).toNatClampNeg) a2.toNatClampNeg)) / (2 : Int32))) := by exact Eq.trans (if_neg c1) (Eq.trans (if_neg c2) (Eq.trans (if_neg c3) (Eq.trans (if_neg c4) (Eq.trans (if_pos c5) (rfl)))))
            rw [e0]
            exact ⟨rfl, hM, es⟩
          · replace h := qa_tsd (q := 101) (qa_e rfl h) (by have n0 := qa_sn (v := 1) c1 (by decide); have n1 := qa_sn (v := 2) c2 (by decide); have n2 := qa_sn (v := 3) c3 (by decide); have n3 := qa_sn (v := 4) c4 (by decide); have n4 := qa_sn (v := 5) c5 (by decide); omega) rfl
            replace h := qa_iload (n := 3) (q := 102) (qa_e rfl h) rfl g3
            have er := qa_ri (qa_e rfl h)
            subst er
            have e0 : ma_30_4 a1 a2 σ = ((3 : Int32) * (σ (9 + a1.toNatClampNeg) a2.toNatClampNeg)) := by exact Eq.trans (if_neg c1) (Eq.trans (if_neg c2) (Eq.trans (if_neg c3) (Eq.trans (if_neg c4) (Eq.trans (if_neg c5) (rfl)))))
            rw [e0]
            exact ⟨rfl, hM, es⟩
