noncomputable def mc_153_99_p84 (N : Nat) (s : Int32 × qa_S) : (Int32 × qa_S) ⊕ ((Int32 × qa_S) ⊕ (Int32 × qa_S)) :=
  if s.1 < (s.2 99 20) then
    qa_in ((ma_161_99 N s.1 s.2)) fun r2 =>
    if r2.1 = (0 : Int32) then
      qa_in ((ma_159_99_117 N (0 : Int32) r2.2)) fun m4 =>
      .inr (.inl (((-2000 : Int32) - (m4 114 s.1.toNatClampNeg)), m4))
    else
      .inl ((s.1 + (1 : Int32)), r2.2)
  else
    .inr (.inr (s.1, s.2))
theorem md_153_99_p84 {N F : Nat} {r : Option Value × q4_M} (hN : F ≤ N) : ∀ f n, f ≤ n → f ≤ F → ∀ (s : Int32 × qa_S) (lv : List (Nat × Value)) (M : q4_M), qa_O M → qa_s M = s.2 → q4_get lv 0 = some (.ref 99) → q4_get lv 1 = some (.int (s.1)) → q4_run f 153 84 lv [] M 0 0 = some r → (∀ b, (qa_wh (fun s => .inr s) (mc_153_99_p84 N) n s) = .inl b → r.1 = some (.int (b.1)) ∧ qa_O r.2 ∧ qa_s r.2 = b.2) ∧ (∀ b, (qa_wh (fun s => .inr s) (mc_153_99_p84 N) n s) = .inr b → ∃ lv M, q4_run F 153 126 lv [] M 0 0 = some r ∧ qa_O M ∧ qa_s M = b.2 ∧ q4_get lv 0 = some (.ref 99)) := by
  intro f
  induction f with
  | zero => intro n _ _ s lv M hM es _ _ h; cases h
  | succ f ih =>
    intro n hn hF s lv M hM es g0 g1 h
    obtain ⟨n, rfl⟩ : ∃ n1, n = n1 + 1 := ⟨n - 1, by omega⟩
    replace hn : f ≤ n := Nat.le_of_succ_le_succ hn
    have hN := Nat.le_trans (Nat.le_of_succ_le hF) hN
    replace h := qa_iload (n := 1) (q := 85) (qa_d rfl h) rfl g1
    replace h := qa_aload (n := 0) (q := 86) (qa_e rfl h) rfl g0
    replace h := qa_gi (j := 20) (q := 89) (qa_e rfl h) rfl hM es rfl (by decide)
    by_cases c1 : s.1 < (s.2 99 20)
    · replace h := qa_iff (q := 92) (qa_e rfl h) rfl (qa_F_ge c1)
      replace h := qa_aload (n := 0) (q := 93) (qa_e rfl h) rfl g0
      replace h := qa_iload (n := 1) (q := 94) (qa_e rfl h) rfl g1
      obtain ⟨r2, er2⟩ : ∃ x, x = (ma_161_99 N s.1 s.2) := ⟨_, rfl⟩
      obtain ⟨M, h, hM, es⟩ := qa_c1 (y := 161) (as := [.ref 99, .int (s.1)]) (rest := []) (i := .invokevirtual 161) (q := 97) (qa_e rfl h) (Or.inl rfl) rfl rfl (by decide) rfl (fun r hc => mb_161_99 hN hM es hc)
      rw [← er2] at h es
      by_cases c3 : r2.1 = (0 : Int32)
      · replace h := qa_icf (q := 100) (qa_e rfl h) rfl (qa_F_ne c3)
        replace h := qa_aload (n := 0) (q := 101) (qa_e rfl h) rfl g0
        replace h := qa_aload (n := 0) (q := 102) (qa_e rfl h) rfl g0
        replace h := qa_gr (b := 117) (j := 24) (q := 105) (qa_e rfl h) rfl hM rfl (by decide)
        replace h := qa_push (z := (0 : Int32)) (q := 106) (qa_e rfl h) rfl (by decide)
        obtain ⟨m4, em4⟩ : ∃ x, x = (ma_159_99_117 N (0 : Int32) r2.2) := ⟨_, rfl⟩
        obtain ⟨M, h, hM, es⟩ := qa_c0 (y := 159) (as := [.ref 99, .ref 117, .int ((0 : Int32))]) (rest := []) (i := .invokevirtual 159) (q := 109) (qa_e rfl h) (Or.inl rfl) rfl rfl (by decide) rfl (fun r hc => mb_159_99_117 hN hM es hc)
        rw [← em4] at es
        replace h := qa_push (z := (-2000 : Int32)) (q := 112) (qa_e rfl h) rfl (by decide)
        replace h := qa_aload (n := 0) (q := 113) (qa_e rfl h) rfl g0
        replace h := qa_gr (b := 114) (j := 21) (q := 116) (qa_e rfl h) rfl hM rfl (by decide)
        replace h := qa_iload (n := 1) (q := 117) (qa_e rfl h) rfl g1
        replace h := qa_iaload (jn := s.1.toNatClampNeg) (q := 118) (qa_e rfl h) rfl hM es rfl
        replace h := qa_isub (q := 119) (qa_e rfl h) rfl
        have er := qa_ri (qa_e rfl h)
        subst er
        have e0 : mc_153_99_p84 N s = .inr (.inl (((-2000 : Int32) - (m4 114 s.1.toNatClampNeg)), m4)) := by exact Eq.trans (if_pos c1) (Eq.trans (qa_ie er2) (Eq.trans (if_pos c3) (Eq.trans (qa_ie em4) (rfl))))
        rw [qa_whr e0]
        exact ⟨fun b hb => (by have e := Sum.inl.inj hb; subst e; exact ⟨rfl, hM, es⟩), fun b hb => nomatch hb⟩
      · replace h := qa_ict (q := 120) (qa_e rfl h) rfl (qa_T_ne c3)
        obtain ⟨lv, h, g, T⟩ := qa_iinc (n := 1) (z := (1 : Int32)) (q := 123) (qa_e rfl h) rfl (by decide) g1
        replace g0 := T _ _ g0 (by decide) (Or.inr rfl)
        replace g1 := g
        clear g T
        replace h := qa_goto (q := 84) (qa_e rfl h) rfl
        have e0 : mc_153_99_p84 N s = .inl ((s.1 + (1 : Int32)), r2.2) := by exact Eq.trans (if_pos c1) (Eq.trans (qa_ie er2) (Eq.trans (if_neg c3) (rfl)))
        rw [qa_whl e0]
        exact ih n hn (Nat.le_of_succ_le hF) ((s.1 + (1 : Int32)), r2.2) _ _ hM es g0 g1 h
    · replace h := qa_ift (q := 126) (qa_e rfl h) rfl (qa_T_ge c1)
      have e0 : mc_153_99_p84 N s = .inr (.inr (s.1, s.2)) := by exact Eq.trans (if_neg c1) (rfl)
      rw [qa_whr e0]
      exact ⟨fun b hb => (nomatch hb), fun b hb => (by have e := Sum.inr.inj hb; subst e; exact ⟨_, _, q61_mono f F _ _ _ _ _ _ _ _ (Nat.le_of_succ_le hF) h, hM, es, g0⟩)⟩
/-- BuriedBySevensModel, cellar, ()I -/
noncomputable def ma_153_99 (N : Nat) (σ : qa_S) : Int32 × qa_S :=
  qa_in (qa_u σ 99 9 (0 : Int32)) fun m1 =>
  qa_in (qa_u m1 99 18 (0 : Int32)) fun m2 =>
  qa_in (qa_u m2 99 19 (0 : Int32)) fun m3 =>
  qa_in (qa_u m3 99 20 (0 : Int32)) fun m4 =>
  qa_in ((qa_wh (fun s => s) (mc_153_99_p20 N) N m4)) fun r5 =>
  qa_in (qa_u r5 99 17 (0 : Int32)) fun m6 =>
  if (m6 99 19) = (0 : Int32) then
    qa_in ((ma_159_99_117 N (1 : Int32) m6)) fun m8 =>
    qa_in ((qa_wh (fun s => .inr s) (mc_153_99_p84 N) N ((0 : Int32), m8))) fun r9 =>
    qa_cs r9
      (fun b10 =>
        (b10.1, b10.2))
      (fun b10 =>
        qa_in (qa_u b10.2 99 32 (0 : Int32)) fun m11 =>
        ((m11 99 20), m11))
  else
    (((-1000 : Int32) - (m6 99 18)), m6)
theorem mb_153_99 {f N : Nat} (hN : f ≤ N) {M : q4_M} {r : Option Value × q4_M} {σ : qa_S} (hM : qa_O M) (es : qa_s M = σ) (h : q4_run f 153 0 (lv_args 0 [.ref 99]) [] M 0 0 = some r) : r.1 = some (.int ((ma_153_99 N σ).1)) ∧ qa_O r.2 ∧ qa_s r.2 = (ma_153_99 N σ).2 := by
  obtain ⟨lv, el⟩ : ∃ l, l = lv_args 0 [.ref 99] := ⟨_, rfl⟩
  have g0 : q4_get lv 0 = some (.ref 99) := by rw [el]; rfl
  rw [← el] at h
  clear el
  replace h := qa_aload (n := 0) (q := 1) (qa_e rfl h) rfl g0
  replace h := qa_push (z := (0 : Int32)) (q := 2) (qa_e rfl h) rfl (by decide)
  obtain ⟨m1, em1⟩ : ∃ x, x = qa_u σ 99 9 (0 : Int32) := ⟨_, rfl⟩
  obtain ⟨M, h, hM, es⟩ := qa_pf (j := 9) (q := 5) (qa_e rfl h) rfl hM es rfl (by decide)
  rw [← em1] at es
  replace h := qa_aload (n := 0) (q := 6) (qa_e rfl h) rfl g0
  replace h := qa_push (z := (0 : Int32)) (q := 7) (qa_e rfl h) rfl (by decide)
  obtain ⟨m2, em2⟩ : ∃ x, x = qa_u m1 99 18 (0 : Int32) := ⟨_, rfl⟩
  obtain ⟨M, h, hM, es⟩ := qa_pf (j := 18) (q := 10) (qa_e rfl h) rfl hM es rfl (by decide)
  rw [← em2] at es
  replace h := qa_aload (n := 0) (q := 11) (qa_e rfl h) rfl g0
  replace h := qa_push (z := (0 : Int32)) (q := 12) (qa_e rfl h) rfl (by decide)
  obtain ⟨m3, em3⟩ : ∃ x, x = qa_u m2 99 19 (0 : Int32) := ⟨_, rfl⟩
  obtain ⟨M, h, hM, es⟩ := qa_pf (j := 19) (q := 15) (qa_e rfl h) rfl hM es rfl (by decide)
  rw [← em3] at es
  replace h := qa_aload (n := 0) (q := 16) (qa_e rfl h) rfl g0
  replace h := qa_push (z := (0 : Int32)) (q := 17) (qa_e rfl h) rfl (by decide)
  obtain ⟨m4, em4⟩ : ∃ x, x = qa_u m3 99 20 (0 : Int32) := ⟨_, rfl⟩
  obtain ⟨M, h, hM, es⟩ := qa_pf (j := 20) (q := 20) (qa_e rfl h) rfl hM es rfl (by decide)
  rw [← em4] at es
  obtain ⟨r5, er5⟩ : ∃ x, x = (qa_wh (fun s => s) (mc_153_99_p20 N) N m4) := ⟨_, rfl⟩
  have L := md_153_99_p20 (F := f) (N := N) (r := r) hN f N hN (Nat.le_refl f) m4 _ _ hM es g0 h
  rw [← er5] at L
  obtain ⟨lv, M, h, hM, es, g0⟩ := L
  replace h := qa_aload (n := 0) (q := 53) (qa_e rfl h) rfl g0
  replace h := qa_push (z := (0 : Int32)) (q := 54) (qa_e rfl h) rfl (by decide)
  obtain ⟨m6, em6⟩ : ∃ x, x = qa_u r5 99 17 (0 : Int32) := ⟨_, rfl⟩
  obtain ⟨M, h, hM, es⟩ := qa_pf (j := 17) (q := 57) (qa_e rfl h) rfl hM es rfl (by decide)
  rw [← em6] at es
  replace h := qa_aload (n := 0) (q := 58) (qa_e rfl h) rfl g0
  replace h := qa_gi (j := 19) (q := 61) (qa_e rfl h) rfl hM es rfl (by decide)
  by_cases c7 : (m6 99 19) = (0 : Int32)
  · replace h := qa_ict (q := 73) (qa_e rfl h) rfl (qa_T_eq c7)
    replace h := qa_aload (n := 0) (q := 74) (qa_e rfl h) rfl g0
    replace h := qa_aload (n := 0) (q := 75) (qa_e rfl h) rfl g0
    replace h := qa_gr (b := 117) (j := 24) (q := 78) (qa_e rfl h) rfl hM rfl (by decide)
    replace h := qa_push (z := (1 : Int32)) (q := 79) (qa_e rfl h) rfl (by decide)
    obtain ⟨m8, em8⟩ : ∃ x, x = (ma_159_99_117 N (1 : Int32) m6) := ⟨_, rfl⟩
    obtain ⟨M, h, hM, es⟩ := qa_c0 (y := 159) (as := [.ref 99, .ref 117, .int ((1 : Int32))]) (rest := []) (i := .invokevirtual 159) (q := 82) (qa_e rfl h) (Or.inl rfl) rfl rfl (by decide) rfl (fun r hc => mb_159_99_117 hN hM es hc)
    rw [← em8] at es
    replace h := qa_push (z := (0 : Int32)) (q := 83) (qa_e rfl h) rfl (by decide)
    obtain ⟨lv, h, g, T⟩ := qa_istore (n := 1) (q := 84) (qa_e rfl h) rfl
    replace g0 := T _ _ g0 (by decide) (Or.inr rfl)
    have g1 := g
    clear g T
    obtain ⟨r9, er9⟩ : ∃ x, x = (qa_wh (fun s => .inr s) (mc_153_99_p84 N) N ((0 : Int32), m8)) := ⟨_, rfl⟩
    have L := md_153_99_p84 (F := f) (N := N) (r := r) hN f N hN (Nat.le_refl f) ((0 : Int32), m8) _ _ hM es g0 g1 h
    rw [← er9] at L
    rcases qr9 : r9 with b10 | b10
    · obtain ⟨h, hM, es⟩ := L.1 b10 qr9
      have e0 : ma_153_99 N σ = (b10.1, b10.2) := by exact Eq.trans (qa_ie em1) (Eq.trans (qa_ie em2) (Eq.trans (qa_ie em3) (Eq.trans (qa_ie em4) (Eq.trans (qa_ie er5) (Eq.trans (qa_ie em6) (Eq.trans (if_pos c7) (Eq.trans (qa_ie em8) (Eq.trans (qa_ie er9) (Eq.trans (qa_csl qr9 _ _) (rfl))))))))))
      rw [e0]
      exact ⟨h, hM, es⟩
    · obtain ⟨lv, M, h, hM, es, g0⟩ := L.2 b10 qr9
      replace h := qa_aload (n := 0) (q := 127) (qa_e rfl h) rfl g0
      replace h := qa_push (z := (0 : Int32)) (q := 128) (qa_e rfl h) rfl (by decide)
      obtain ⟨m11, em11⟩ : ∃ x, x = qa_u b10.2 99 32 (0 : Int32) := ⟨_, rfl⟩
      obtain ⟨M, h, hM, es⟩ := qa_pf (j := 32) (q := 131) (qa_e rfl h) rfl hM es rfl (by decide)
      rw [← em11] at es
      replace h := qa_aload (n := 0) (q := 132) (qa_e rfl h) rfl g0
      replace h := qa_gi (j := 20) (q := 135) (qa_e rfl h) rfl hM es rfl (by decide)
      have er := qa_ri (qa_e rfl h)
      subst er
      have e0 : ma_153_99 N σ = ((m11 99 20), m11) := by exact Eq.trans (qa_ie em1) (Eq.trans (qa_ie em2) (Eq.trans (qa_ie em3) (Eq.trans (qa_ie em4) (Eq.trans (qa_ie er5) (Eq.trans (qa_ie em6) (Eq.trans (if_pos c7) (Eq.trans (qa_ie em8) (Eq.trans (qa_ie er9) (Eq.trans (qa_csr qr9 _ _) (Eq.trans (qa_ie em11) (rfl)))))))))))
      rw [e0]
      exact ⟨rfl, hM, es⟩
  · replace h := qa_icf (q := 64) (qa_e rfl h) rfl (qa_F_eq c7)
    replace h := qa_push (z := (-1000 : Int32)) (q := 67) (qa_e rfl h) rfl (by decide)
    replace h := qa_aload (n := 0) (q := 68) (qa_e rfl h) rfl g0
    replace h := qa_gi (j := 18) (q := 71) (qa_e rfl h) rfl hM es rfl (by decide)
    replace h := qa_isub (q := 72) (qa_e rfl h) rfl
    have er := qa_ri (qa_e rfl h)
    subst er
    have e0 : ma_153_99 N σ = (((-1000 : Int32) - (m6 99 18)), m6) := by exact Eq.trans (qa_ie em1) (Eq.trans (qa_ie em2) (Eq.trans (qa_ie em3) (Eq.trans (qa_ie em4) (Eq.trans (qa_ie er5) (Eq.trans (qa_ie em6) (Eq.trans (if_neg c7) (rfl)))))))
    rw [e0]
    exact ⟨rfl, hM, es⟩
noncomputable def mc_159_99_118_p41 (N : Nat) (s : Int32 × qa_S) : (Int32 × qa_S) ⊕ (Int32 × qa_S) :=
  if s.1 < (7 : Int32) then
    qa_in ((ma_160_99 (s.2 100 s.1.toNatClampNeg) s.2)) fun r2 =>
    qa_in (qa_u r2.2 100 s.1.toNatClampNeg r2.1) fun m3 =>
    qa_in ((ma_160_99 (m3 101 s.1.toNatClampNeg) m3)) fun r4 =>
    qa_in (qa_u r4.2 101 s.1.toNatClampNeg r4.1) fun m5 =>
    qa_in ((ma_160_99 (m5 103 s.1.toNatClampNeg) m5)) fun r6 =>
    qa_in (qa_u r6.2 103 s.1.toNatClampNeg r6.1) fun m7 =>
    .inl ((s.1 + (1 : Int32)), m7)
  else
    .inr (s.1, s.2)
theorem md_159_99_118_p41 {N F : Nat} {r : Option Value × q4_M} (hN : F ≤ N) : ∀ f n, f ≤ n → f ≤ F → ∀ (s : Int32 × qa_S) (lv : List (Nat × Value)) (M : q4_M), qa_O M → qa_s M = s.2 → q4_get lv 0 = some (.ref 99) → q4_get lv 3 = some (.int (s.1)) → q4_run f 159 41 lv [] M 0 0 = some r → ∃ lv M, q4_run F 159 101 lv [] M 0 0 = some r ∧ qa_O M ∧ qa_s M = (qa_wh (fun s => s) (mc_159_99_118_p41 N) n s).2 ∧ q4_get lv 0 = some (.ref 99) := by
  intro f
  induction f with
  | zero => intro n _ _ s lv M hM es _ _ h; cases h
  | succ f ih =>
    intro n hn hF s lv M hM es g0 g3 h
    obtain ⟨n, rfl⟩ : ∃ n1, n = n1 + 1 := ⟨n - 1, by omega⟩
    replace hn : f ≤ n := Nat.le_of_succ_le_succ hn
    have hN := Nat.le_trans (Nat.le_of_succ_le hF) hN
    replace h := qa_iload (n := 3) (q := 42) (qa_d rfl h) rfl g3
    replace h := qa_push (z := (7 : Int32)) (q := 44) (qa_e rfl h) rfl (by decide)
    by_cases c1 : s.1 < (7 : Int32)
    · replace h := qa_iff (q := 47) (qa_e rfl h) rfl (qa_F_ge c1)
      replace h := qa_aload (n := 0) (q := 48) (qa_e rfl h) rfl g0
      replace h := qa_gr (b := 100) (j := 1) (q := 51) (qa_e rfl h) rfl hM rfl (by decide)
      replace h := qa_iload (n := 3) (q := 52) (qa_e rfl h) rfl g3
      replace h := qa_aload (n := 0) (q := 53) (qa_e rfl h) rfl g0
      replace h := qa_aload (n := 0) (q := 54) (qa_e rfl h) rfl g0
      replace h := qa_gr (b := 100) (j := 1) (q := 57) (qa_e rfl h) rfl hM rfl (by decide)
      replace h := qa_iload (n := 3) (q := 58) (qa_e rfl h) rfl g3
      replace h := qa_iaload (jn := s.1.toNatClampNeg) (q := 59) (qa_e rfl h) rfl hM es rfl
      obtain ⟨r2, er2⟩ : ∃ x, x = (ma_160_99 (s.2 100 s.1.toNatClampNeg) s.2) := ⟨_, rfl⟩
      obtain ⟨M, h, hM, es⟩ := qa_c1 (y := 160) (as := [.ref 99, .int ((s.2 100 s.1.toNatClampNeg))]) (rest := [.int (s.1), .ref 100]) (i := .invokevirtual 160) (q := 62) (qa_e rfl h) (Or.inl rfl) rfl rfl (by decide) rfl (fun r hc => mb_160_99 hM es hc)
      rw [← er2] at h es
      obtain ⟨m3, em3⟩ : ∃ x, x = qa_u r2.2 100 s.1.toNatClampNeg r2.1 := ⟨_, rfl⟩
      obtain ⟨M, h, hM, es⟩ := qa_iastore (jn := s.1.toNatClampNeg) (q := 63) (qa_e rfl h) rfl hM es rfl
      rw [← em3] at es
      replace h := qa_aload (n := 0) (q := 64) (qa_e rfl h) rfl g0
      replace h := qa_gr (b := 101) (j := 2) (q := 67) (qa_e rfl h) rfl hM rfl (by decide)
      replace h := qa_iload (n := 3) (q := 68) (qa_e rfl h) rfl g3
      replace h := qa_aload (n := 0) (q := 69) (qa_e rfl h) rfl g0
      replace h := qa_aload (n := 0) (q := 70) (qa_e rfl h) rfl g0
      replace h := qa_gr (b := 101) (j := 2) (q := 73) (qa_e rfl h) rfl hM rfl (by decide)
      replace h := qa_iload (n := 3) (q := 74) (qa_e rfl h) rfl g3
      replace h := qa_iaload (jn := s.1.toNatClampNeg) (q := 75) (qa_e rfl h) rfl hM es rfl
      obtain ⟨r4, er4⟩ : ∃ x, x = (ma_160_99 (m3 101 s.1.toNatClampNeg) m3) := ⟨_, rfl⟩
      obtain ⟨M, h, hM, es⟩ := qa_c1 (y := 160) (as := [.ref 99, .int ((m3 101 s.1.toNatClampNeg))]) (rest := [.int (s.1), .ref 101]) (i := .invokevirtual 160) (q := 78) (qa_e rfl h) (Or.inl rfl) rfl rfl (by decide) rfl (fun r hc => mb_160_99 hM es hc)
      rw [← er4] at h es
      obtain ⟨m5, em5⟩ : ∃ x, x = qa_u r4.2 101 s.1.toNatClampNeg r4.1 := ⟨_, rfl⟩
      obtain ⟨M, h, hM, es⟩ := qa_iastore (jn := s.1.toNatClampNeg) (q := 79) (qa_e rfl h) rfl hM es rfl
      rw [← em5] at es
      replace h := qa_aload (n := 0) (q := 80) (qa_e rfl h) rfl g0
      replace h := qa_gr (b := 103) (j := 4) (q := 83) (qa_e rfl h) rfl hM rfl (by decide)
      replace h := qa_iload (n := 3) (q := 84) (qa_e rfl h) rfl g3
      replace h := qa_aload (n := 0) (q := 85) (qa_e rfl h) rfl g0
      replace h := qa_aload (n := 0) (q := 86) (qa_e rfl h) rfl g0
      replace h := qa_gr (b := 103) (j := 4) (q := 89) (qa_e rfl h) rfl hM rfl (by decide)
      replace h := qa_iload (n := 3) (q := 90) (qa_e rfl h) rfl g3
      replace h := qa_iaload (jn := s.1.toNatClampNeg) (q := 91) (qa_e rfl h) rfl hM es rfl
      obtain ⟨r6, er6⟩ : ∃ x, x = (ma_160_99 (m5 103 s.1.toNatClampNeg) m5) := ⟨_, rfl⟩
      obtain ⟨M, h, hM, es⟩ := qa_c1 (y := 160) (as := [.ref 99, .int ((m5 103 s.1.toNatClampNeg))]) (rest := [.int (s.1), .ref 103]) (i := .invokevirtual 160) (q := 94) (qa_e rfl h) (Or.inl rfl) rfl rfl (by decide) rfl (fun r hc => mb_160_99 hM es hc)
      rw [← er6] at h es
      obtain ⟨m7, em7⟩ : ∃ x, x = qa_u r6.2 103 s.1.toNatClampNeg r6.1 := ⟨_, rfl⟩
      obtain ⟨M, h, hM, es⟩ := qa_iastore (jn := s.1.toNatClampNeg) (q := 95) (qa_e rfl h) rfl hM es rfl
      rw [← em7] at es
      obtain ⟨lv, h, g, T⟩ := qa_iinc (n := 3) (z := (1 : Int32)) (q := 98) (qa_e rfl h) rfl (by decide) g3
      replace g0 := T _ _ g0 (by decide) (Or.inr rfl)
      replace g3 := g
      clear g T
      replace h := qa_goto (q := 41) (qa_e rfl h) rfl
      have e0 : mc_159_99_118_p41 N s = .inl ((s.1 + (1 : Int32)), m7) := by exact Eq.trans (if_pos c1) (Eq.trans (qa_ie er2) (Eq.trans (qa_ie em3) (Eq.trans (qa_ie er4) (Eq.trans (qa_ie em5) (Eq.trans (qa_ie er6) (Eq.trans (qa_ie em7) (rfl)))))))
      rw [qa_whl e0]
      exact ih n hn (Nat.le_of_succ_le hF) ((s.1 + (1 : Int32)), m7) _ _ hM es g0 g3 h
    · replace h := qa_ift (q := 101) (qa_e rfl h) rfl (qa_T_ge c1)
      have e0 : mc_159_99_118_p41 N s = .inr (s.1, s.2) := by exact Eq.trans (if_neg c1) (rfl)
      rw [qa_whr e0]
      exact ⟨_, _, q61_mono f F _ _ _ _ _ _ _ _ (Nat.le_of_succ_le hF) h, hM, es, g0⟩
noncomputable def mc_159_99_118_p103 (N : Nat) (s : Int32 × qa_S) : (Int32 × qa_S) ⊕ (Int32 × qa_S) :=
  if s.1 < (28 : Int32) then
    qa_in ((ma_160_99 (s.2 102 s.1.toNatClampNeg) s.2)) fun r2 =>
    qa_in (qa_u r2.2 102 s.1.toNatClampNeg r2.1) fun m3 =>
    .inl ((s.1 + (1 : Int32)), m3)
  else
    .inr (s.1, s.2)
theorem md_159_99_118_p103 {N F : Nat} {r : Option Value × q4_M} (hN : F ≤ N) : ∀ f n, f ≤ n → f ≤ F → ∀ (s : Int32 × qa_S) (lv : List (Nat × Value)) (M : q4_M), qa_O M → qa_s M = s.2 → q4_get lv 0 = some (.ref 99) → q4_get lv 3 = some (.int (s.1)) → q4_run f 159 103 lv [] M 0 0 = some r → ∃ lv M, q4_run F 159 131 lv [] M 0 0 = some r ∧ qa_O M ∧ qa_s M = (qa_wh (fun s => s) (mc_159_99_118_p103 N) n s).2 ∧ q4_get lv 0 = some (.ref 99) := by
  intro f
  induction f with
  | zero => intro n _ _ s lv M hM es _ _ h; cases h
  | succ f ih =>
    intro n hn hF s lv M hM es g0 g3 h
    obtain ⟨n, rfl⟩ : ∃ n1, n = n1 + 1 := ⟨n - 1, by omega⟩
    replace hn : f ≤ n := Nat.le_of_succ_le_succ hn
    have hN := Nat.le_trans (Nat.le_of_succ_le hF) hN
    replace h := qa_iload (n := 3) (q := 104) (qa_d rfl h) rfl g3
    replace h := qa_push (z := (28 : Int32)) (q := 106) (qa_e rfl h) rfl (by decide)
    by_cases c1 : s.1 < (28 : Int32)
    · replace h := qa_iff (q := 109) (qa_e rfl h) rfl (qa_F_ge c1)
      replace h := qa_aload (n := 0) (q := 110) (qa_e rfl h) rfl g0
      replace h := qa_gr (b := 102) (j := 3) (q := 113) (qa_e rfl h) rfl hM rfl (by decide)
      replace h := qa_iload (n := 3) (q := 114) (qa_e rfl h) rfl g3
      replace h := qa_aload (n := 0) (q := 115) (qa_e rfl h) rfl g0
      replace h := qa_aload (n := 0) (q := 116) (qa_e rfl h) rfl g0
      replace h := qa_gr (b := 102) (j := 3) (q := 119) (qa_e rfl h) rfl hM rfl (by decide)
      replace h := qa_iload (n := 3) (q := 120) (qa_e rfl h) rfl g3
      replace h := qa_iaload (jn := s.1.toNatClampNeg) (q := 121) (qa_e rfl h) rfl hM es rfl
      obtain ⟨r2, er2⟩ : ∃ x, x = (ma_160_99 (s.2 102 s.1.toNatClampNeg) s.2) := ⟨_, rfl⟩
      obtain ⟨M, h, hM, es⟩ := qa_c1 (y := 160) (as := [.ref 99, .int ((s.2 102 s.1.toNatClampNeg))]) (rest := [.int (s.1), .ref 102]) (i := .invokevirtual 160) (q := 124) (qa_e rfl h) (Or.inl rfl) rfl rfl (by decide) rfl (fun r hc => mb_160_99 hM es hc)
      rw [← er2] at h es
      obtain ⟨m3, em3⟩ : ∃ x, x = qa_u r2.2 102 s.1.toNatClampNeg r2.1 := ⟨_, rfl⟩
      obtain ⟨M, h, hM, es⟩ := qa_iastore (jn := s.1.toNatClampNeg) (q := 125) (qa_e rfl h) rfl hM es rfl
      rw [← em3] at es
      obtain ⟨lv, h, g, T⟩ := qa_iinc (n := 3) (z := (1 : Int32)) (q := 128) (qa_e rfl h) rfl (by decide) g3
      replace g0 := T _ _ g0 (by decide) (Or.inr rfl)
      replace g3 := g
      clear g T
      replace h := qa_goto (q := 103) (qa_e rfl h) rfl
      have e0 : mc_159_99_118_p103 N s = .inl ((s.1 + (1 : Int32)), m3) := by exact Eq.trans (if_pos c1) (Eq.trans (qa_ie er2) (Eq.trans (qa_ie em3) (rfl)))
      rw [qa_whl e0]
      exact ih n hn (Nat.le_of_succ_le hF) ((s.1 + (1 : Int32)), m3) _ _ hM es g0 g3 h
    · replace h := qa_ift (q := 131) (qa_e rfl h) rfl (qa_T_ge c1)
      have e0 : mc_159_99_118_p103 N s = .inr (s.1, s.2) := by exact Eq.trans (if_neg c1) (rfl)
      rw [qa_whr e0]
      exact ⟨_, _, q61_mono f F _ _ _ _ _ _ _ _ (Nat.le_of_succ_le hF) h, hM, es, g0⟩
noncomputable def mc_159_99_118_p133 (N : Nat) (s : Int32 × qa_S) : (Int32 × qa_S) ⊕ (Int32 × qa_S) :=
  if s.1 < (6 : Int32) then
    qa_in ((ma_160_99 (s.2 104 s.1.toNatClampNeg) s.2)) fun r2 =>
    qa_in (qa_u r2.2 104 s.1.toNatClampNeg r2.1) fun m3 =>
    qa_in ((ma_160_99 (m3 105 s.1.toNatClampNeg) m3)) fun r4 =>
    qa_in (qa_u r4.2 105 s.1.toNatClampNeg r4.1) fun m5 =>
    qa_in ((ma_160_99 (m5 106 s.1.toNatClampNeg) m5)) fun r6 =>
    qa_in (qa_u r6.2 106 s.1.toNatClampNeg r6.1) fun m7 =>
    .inl ((s.1 + (1 : Int32)), m7)
  else
    .inr (s.1, s.2)
theorem md_159_99_118_p133 {N F : Nat} {r : Option Value × q4_M} (hN : F ≤ N) : ∀ f n, f ≤ n → f ≤ F → ∀ (s : Int32 × qa_S) (lv : List (Nat × Value)) (M : q4_M), qa_O M → qa_s M = s.2 → q4_get lv 0 = some (.ref 99) → q4_get lv 3 = some (.int (s.1)) → q4_run f 159 133 lv [] M 0 0 = some r → ∃ lv M, q4_run F 159 193 lv [] M 0 0 = some r ∧ qa_O M ∧ qa_s M = (qa_wh (fun s => s) (mc_159_99_118_p133 N) n s).2 := by
  intro f
  induction f with
  | zero => intro n _ _ s lv M hM es _ _ h; cases h
  | succ f ih =>
    intro n hn hF s lv M hM es g0 g3 h
    obtain ⟨n, rfl⟩ : ∃ n1, n = n1 + 1 := ⟨n - 1, by omega⟩
    replace hn : f ≤ n := Nat.le_of_succ_le_succ hn
    have hN := Nat.le_trans (Nat.le_of_succ_le hF) hN
    replace h := qa_iload (n := 3) (q := 134) (qa_d rfl h) rfl g3
    replace h := qa_push (z := (6 : Int32)) (q := 136) (qa_e rfl h) rfl (by decide)
    by_cases c1 : s.1 < (6 : Int32)
    · replace h := qa_iff (q := 139) (qa_e rfl h) rfl (qa_F_ge c1)
      replace h := qa_aload (n := 0) (q := 140) (qa_e rfl h) rfl g0
      replace h := qa_gr (b := 104) (j := 6) (q := 143) (qa_e rfl h) rfl hM rfl (by decide)
      replace h := qa_iload (n := 3) (q := 144) (qa_e rfl h) rfl g3
      replace h := qa_aload (n := 0) (q := 145) (qa_e rfl h) rfl g0
      replace h := qa_aload (n := 0) (q := 146) (qa_e rfl h) rfl g0
      replace h := qa_gr (b := 104) (j := 6) (q := 149) (qa_e rfl h) rfl hM rfl (by decide)
      replace h := qa_iload (n := 3) (q := 150) (qa_e rfl h) rfl g3
      replace h := qa_iaload (jn := s.1.toNatClampNeg) (q := 151) (qa_e rfl h) rfl hM es rfl
      obtain ⟨r2, er2⟩ : ∃ x, x = (ma_160_99 (s.2 104 s.1.toNatClampNeg) s.2) := ⟨_, rfl⟩
      obtain ⟨M, h, hM, es⟩ := qa_c1 (y := 160) (as := [.ref 99, .int ((s.2 104 s.1.toNatClampNeg))]) (rest := [.int (s.1), .ref 104]) (i := .invokevirtual 160) (q := 154) (qa_e rfl h) (Or.inl rfl) rfl rfl (by decide) rfl (fun r hc => mb_160_99 hM es hc)
      rw [← er2] at h es
      obtain ⟨m3, em3⟩ : ∃ x, x = qa_u r2.2 104 s.1.toNatClampNeg r2.1 := ⟨_, rfl⟩
      obtain ⟨M, h, hM, es⟩ := qa_iastore (jn := s.1.toNatClampNeg) (q := 155) (qa_e rfl h) rfl hM es rfl
      rw [← em3] at es
      replace h := qa_aload (n := 0) (q := 156) (qa_e rfl h) rfl g0
      replace h := qa_gr (b := 105) (j := 7) (q := 159) (qa_e rfl h) rfl hM rfl (by decide)
      replace h := qa_iload (n := 3) (q := 160) (qa_e rfl h) rfl g3
      replace h := qa_aload (n := 0) (q := 161) (qa_e rfl h) rfl g0
      replace h := qa_aload (n := 0) (q := 162) (qa_e rfl h) rfl g0
      replace h := qa_gr (b := 105) (j := 7) (q := 165) (qa_e rfl h) rfl hM rfl (by decide)
      replace h := qa_iload (n := 3) (q := 166) (qa_e rfl h) rfl g3
      replace h := qa_iaload (jn := s.1.toNatClampNeg) (q := 167) (qa_e rfl h) rfl hM es rfl
      obtain ⟨r4, er4⟩ : ∃ x, x = (ma_160_99 (m3 105 s.1.toNatClampNeg) m3) := ⟨_, rfl⟩
      obtain ⟨M, h, hM, es⟩ := qa_c1 (y := 160) (as := [.ref 99, .int ((m3 105 s.1.toNatClampNeg))]) (rest := [.int (s.1), .ref 105]) (i := .invokevirtual 160) (q := 170) (qa_e rfl h) (Or.inl rfl) rfl rfl (by decide) rfl (fun r hc => mb_160_99 hM es hc)
      rw [← er4] at h es
      obtain ⟨m5, em5⟩ : ∃ x, x = qa_u r4.2 105 s.1.toNatClampNeg r4.1 := ⟨_, rfl⟩
      obtain ⟨M, h, hM, es⟩ := qa_iastore (jn := s.1.toNatClampNeg) (q := 171) (qa_e rfl h) rfl hM es rfl
      rw [← em5] at es
      replace h := qa_aload (n := 0) (q := 172) (qa_e rfl h) rfl g0
      replace h := qa_gr (b := 106) (j := 8) (q := 175) (qa_e rfl h) rfl hM rfl (by decide)
      replace h := qa_iload (n := 3) (q := 176) (qa_e rfl h) rfl g3
      replace h := qa_aload (n := 0) (q := 177) (qa_e rfl h) rfl g0
      replace h := qa_aload (n := 0) (q := 178) (qa_e rfl h) rfl g0
      replace h := qa_gr (b := 106) (j := 8) (q := 181) (qa_e rfl h) rfl hM rfl (by decide)
      replace h := qa_iload (n := 3) (q := 182) (qa_e rfl h) rfl g3
      replace h := qa_iaload (jn := s.1.toNatClampNeg) (q := 183) (qa_e rfl h) rfl hM es rfl
      obtain ⟨r6, er6⟩ : ∃ x, x = (ma_160_99 (m5 106 s.1.toNatClampNeg) m5) := ⟨_, rfl⟩
      obtain ⟨M, h, hM, es⟩ := qa_c1 (y := 160) (as := [.ref 99, .int ((m5 106 s.1.toNatClampNeg))]) (rest := [.int (s.1), .ref 106]) (i := .invokevirtual 160) (q := 186) (qa_e rfl h) (Or.inl rfl) rfl rfl (by decide) rfl (fun r hc => mb_160_99 hM es hc)
      rw [← er6] at h es
      obtain ⟨m7, em7⟩ : ∃ x, x = qa_u r6.2 106 s.1.toNatClampNeg r6.1 := ⟨_, rfl⟩
      obtain ⟨M, h, hM, es⟩ := qa_iastore (jn := s.1.toNatClampNeg) (q := 187) (qa_e rfl h) rfl hM es rfl
      rw [← em7] at es
      obtain ⟨lv, h, g, T⟩ := qa_iinc (n := 3) (z := (1 : Int32)) (q := 190) (qa_e rfl h) rfl (by decide) g3
      replace g0 := T _ _ g0 (by decide) (Or.inr rfl)
      replace g3 := g
      clear g T
      replace h := qa_goto (q := 133) (qa_e rfl h) rfl
      have e0 : mc_159_99_118_p133 N s = .inl ((s.1 + (1 : Int32)), m7) := by exact Eq.trans (if_pos c1) (Eq.trans (qa_ie er2) (Eq.trans (qa_ie em3) (Eq.trans (qa_ie er4) (Eq.trans (qa_ie em5) (Eq.trans (qa_ie er6) (Eq.trans (qa_ie em7) (rfl)))))))
      rw [qa_whl e0]
      exact ih n hn (Nat.le_of_succ_le hF) ((s.1 + (1 : Int32)), m7) _ _ hM es g0 g3 h
    · replace h := qa_ift (q := 193) (qa_e rfl h) rfl (qa_T_ge c1)
      have e0 : mc_159_99_118_p133 N s = .inr (s.1, s.2) := by exact Eq.trans (if_neg c1) (rfl)
      rw [qa_whr e0]
      exact ⟨_, _, q61_mono f F _ _ _ _ _ _ _ _ (Nat.le_of_succ_le hF) h, hM, es⟩
/-- BuriedBySevensModel, carryAll, ([IZ)V -/
noncomputable def ma_159_99_118 (N : Nat) (a2 : Int32) (σ : qa_S) : qa_S :=
  qa_in (qa_u σ 99 29 (118 : Int32)) fun m1 =>
  qa_in (qa_u m1 99 28 a2) fun m2 =>
  qa_in (qa_u m2 99 27 (0 : Int32)) fun m3 =>
  qa_in ((ma_160_99 (m3 99 0) m3)) fun r4 =>
  qa_in (qa_u r4.2 99 0 r4.1) fun m5 =>
  qa_in ((ma_160_99 (m5 99 5) m5)) fun r6 =>
  qa_in (qa_u r6.2 99 5 r6.1) fun m7 =>
  qa_in ((qa_wh (fun s => s) (mc_159_99_118_p41 N) N ((0 : Int32), m7))) fun r8 =>
  qa_in ((qa_wh (fun s => s) (mc_159_99_118_p103 N) N ((0 : Int32), r8.2))) fun r9 =>
  qa_in ((qa_wh (fun s => s) (mc_159_99_118_p133 N) N ((0 : Int32), r9.2))) fun r10 =>
  r10.2
theorem mb_159_99_118 {f N : Nat} (hN : f ≤ N) {M : q4_M} {r : Option Value × q4_M} {σ : qa_S} {a2 : Int32} (hM : qa_O M) (es : qa_s M = σ) (h : q4_run f 159 0 (lv_args 0 [.ref 99, .ref 118, .int (a2)]) [] M 0 0 = some r) : r.1 = none ∧ qa_O r.2 ∧ qa_s r.2 = (ma_159_99_118 N a2 σ) := by
  obtain ⟨lv, el⟩ : ∃ l, l = lv_args 0 [.ref 99, .ref 118, .int (a2)] := ⟨_, rfl⟩
  have g0 : q4_get lv 0 = some (.ref 99) := by rw [el]; rfl
  have g1 : q4_get lv 1 = some (.ref 118) := by rw [el]; rfl
  have g2 : q4_get lv 2 = some (.int (a2)) := by rw [el]; rfl
  rw [← el] at h
  clear el
  replace h := qa_aload (n := 0) (q := 1) (qa_e rfl h) rfl g0
  replace h := qa_aload (n := 1) (q := 2) (qa_e rfl h) rfl g1
  obtain ⟨m1, em1⟩ : ∃ x, x = qa_u σ 99 29 (118 : Int32) := ⟨_, rfl⟩
  obtain ⟨M, h, hM, es⟩ := qa_pk (j := 29) (z := (118 : Int32)) (q := 5) (qa_e rfl h) rfl hM es rfl (by decide) (by decide)
  rw [← em1] at es
  replace h := qa_aload (n := 0) (q := 6) (qa_e rfl h) rfl g0
  replace h := qa_iload (n := 2) (q := 7) (qa_e rfl h) rfl g2
  obtain ⟨m2, em2⟩ : ∃ x, x = qa_u m1 99 28 a2 := ⟨_, rfl⟩
  obtain ⟨M, h, hM, es⟩ := qa_pf (j := 28) (q := 10) (qa_e rfl h) rfl hM es rfl (by decide)
  rw [← em2] at es
  replace h := qa_aload (n := 0) (q := 11) (qa_e rfl h) rfl g0
  replace h := qa_push (z := (0 : Int32)) (q := 12) (qa_e rfl h) rfl (by decide)
  obtain ⟨m3, em3⟩ : ∃ x, x = qa_u m2 99 27 (0 : Int32) := ⟨_, rfl⟩
  obtain ⟨M, h, hM, es⟩ := qa_pf (j := 27) (q := 15) (qa_e rfl h) rfl hM es rfl (by decide)
  rw [← em3] at es
  replace h := qa_aload (n := 0) (q := 16) (qa_e rfl h) rfl g0
  replace h := qa_aload (n := 0) (q := 17) (qa_e rfl h) rfl g0
  replace h := qa_aload (n := 0) (q := 18) (qa_e rfl h) rfl g0
  replace h := qa_gi (j := 0) (q := 21) (qa_e rfl h) rfl hM es rfl (by decide)
  obtain ⟨r4, er4⟩ : ∃ x, x = (ma_160_99 (m3 99 0) m3) := ⟨_, rfl⟩
  obtain ⟨M, h, hM, es⟩ := qa_c1 (y := 160) (as := [.ref 99, .int ((m3 99 0))]) (rest := [.ref 99]) (i := .invokevirtual 160) (q := 24) (qa_e rfl h) (Or.inl rfl) rfl rfl (by decide) rfl (fun r hc => mb_160_99 hM es hc)
  rw [← er4] at h es
  obtain ⟨m5, em5⟩ : ∃ x, x = qa_u r4.2 99 0 r4.1 := ⟨_, rfl⟩
  obtain ⟨M, h, hM, es⟩ := qa_pf (j := 0) (q := 27) (qa_e rfl h) rfl hM es rfl (by decide)
  rw [← em5] at es
  replace h := qa_aload (n := 0) (q := 28) (qa_e rfl h) rfl g0
  replace h := qa_aload (n := 0) (q := 29) (qa_e rfl h) rfl g0
  replace h := qa_aload (n := 0) (q := 30) (qa_e rfl h) rfl g0
  replace h := qa_gi (j := 5) (q := 33) (qa_e rfl h) rfl hM es rfl (by decide)
  obtain ⟨r6, er6⟩ : ∃ x, x = (ma_160_99 (m5 99 5) m5) := ⟨_, rfl⟩
  obtain ⟨M, h, hM, es⟩ := qa_c1 (y := 160) (as := [.ref 99, .int ((m5 99 5))]) (rest := [.ref 99]) (i := .invokevirtual 160) (q := 36) (qa_e rfl h) (Or.inl rfl) rfl rfl (by decide) rfl (fun r hc => mb_160_99 hM es hc)
  rw [← er6] at h es
  obtain ⟨m7, em7⟩ : ∃ x, x = qa_u r6.2 99 5 r6.1 := ⟨_, rfl⟩
  obtain ⟨M, h, hM, es⟩ := qa_pf (j := 5) (q := 39) (qa_e rfl h) rfl hM es rfl (by decide)
  rw [← em7] at es
  replace h := qa_push (z := (0 : Int32)) (q := 40) (qa_e rfl h) rfl (by decide)
  obtain ⟨lv, h, g, T⟩ := qa_istore (n := 3) (q := 41) (qa_e rfl h) rfl
  replace g0 := T _ _ g0 (by decide) (Or.inr rfl)
  have g3 := g
  clear g T
  obtain ⟨r8, er8⟩ : ∃ x, x = (qa_wh (fun s => s) (mc_159_99_118_p41 N) N ((0 : Int32), m7)) := ⟨_, rfl⟩
  have L := md_159_99_118_p41 (F := f) (N := N) (r := r) hN f N hN (Nat.le_refl f) ((0 : Int32), m7) _ _ hM es g0 g3 h
  rw [← er8] at L
  obtain ⟨lv, M, h, hM, es, g0⟩ := L
  replace h := qa_push (z := (0 : Int32)) (q := 102) (qa_e rfl h) rfl (by decide)
  obtain ⟨lv, h, g, T⟩ := qa_istore (n := 3) (q := 103) (qa_e rfl h) rfl
  replace g0 := T _ _ g0 (by decide) (Or.inr rfl)
  have g3 := g
  clear g T
  obtain ⟨r9, er9⟩ : ∃ x, x = (qa_wh (fun s => s) (mc_159_99_118_p103 N) N ((0 : Int32), r8.2)) := ⟨_, rfl⟩
  have L := md_159_99_118_p103 (F := f) (N := N) (r := r) hN f N hN (Nat.le_refl f) ((0 : Int32), r8.2) _ _ hM es g0 g3 h
  rw [← er9] at L
  obtain ⟨lv, M, h, hM, es, g0⟩ := L
  replace h := qa_push (z := (0 : Int32)) (q := 132) (qa_e rfl h) rfl (by decide)
  obtain ⟨lv, h, g, T⟩ := qa_istore (n := 3) (q := 133) (qa_e rfl h) rfl
  replace g0 := T _ _ g0 (by decide) (Or.inr rfl)
  have g3 := g
  clear g T
  obtain ⟨r10, er10⟩ : ∃ x, x = (qa_wh (fun s => s) (mc_159_99_118_p133 N) N ((0 : Int32), r9.2)) := ⟨_, rfl⟩
  have L := md_159_99_118_p133 (F := f) (N := N) (r := r) hN f N hN (Nat.le_refl f) ((0 : Int32), r9.2) _ _ hM es g0 g3 h
  rw [← er10] at L
  obtain ⟨lv, M, h, hM, es⟩ := L
  have er := qa_rv (qa_e rfl h)
  subst er
  have e0 : ma_159_99_118 N a2 σ = r10.2 := by exact Eq.trans (qa_ie em1) (Eq.trans (qa_ie em2) (Eq.trans (qa_ie em3) (Eq.trans (qa_ie er4) (Eq.trans (qa_ie em5) (Eq.trans (qa_ie er6) (Eq.trans (qa_ie em7) (Eq.trans (qa_ie er8) (Eq.trans (qa_ie er9) (Eq.trans (qa_ie er10) (rfl))))))))))
  rw [e0]
  exact ⟨rfl, hM, es⟩
/-- BuriedBySevensModel, image, ()I -/
noncomputable def ma_166_99 (N : Nat) (σ : qa_S) : Int32 × qa_S :=
  qa_in (qa_u σ 99 9 (0 : Int32)) fun m1 =>
  qa_in (qa_u m1 99 26 (1 : Int32)) fun m2 =>
  qa_in ((ma_159_99_118 N (1 : Int32) m2)) fun m3 =>
  ((m3 99 0), m3)
theorem mb_166_99 {f N : Nat} (hN : f ≤ N) {M : q4_M} {r : Option Value × q4_M} {σ : qa_S} (hM : qa_O M) (es : qa_s M = σ) (h : q4_run f 166 0 (lv_args 0 [.ref 99]) [] M 0 0 = some r) : r.1 = some (.int ((ma_166_99 N σ).1)) ∧ qa_O r.2 ∧ qa_s r.2 = (ma_166_99 N σ).2 := by
  obtain ⟨lv, el⟩ : ∃ l, l = lv_args 0 [.ref 99] := ⟨_, rfl⟩
  have g0 : q4_get lv 0 = some (.ref 99) := by rw [el]; rfl
  rw [← el] at h
  clear el
  replace h := qa_aload (n := 0) (q := 1) (qa_e rfl h) rfl g0
  replace h := qa_push (z := (0 : Int32)) (q := 2) (qa_e rfl h) rfl (by decide)
  obtain ⟨m1, em1⟩ : ∃ x, x = qa_u σ 99 9 (0 : Int32) := ⟨_, rfl⟩
  obtain ⟨M, h, hM, es⟩ := qa_pf (j := 9) (q := 5) (qa_e rfl h) rfl hM es rfl (by decide)
  rw [← em1] at es
  replace h := qa_aload (n := 0) (q := 6) (qa_e rfl h) rfl g0
  replace h := qa_push (z := (1 : Int32)) (q := 7) (qa_e rfl h) rfl (by decide)
  obtain ⟨m2, em2⟩ : ∃ x, x = qa_u m1 99 26 (1 : Int32) := ⟨_, rfl⟩
  obtain ⟨M, h, hM, es⟩ := qa_pf (j := 26) (q := 10) (qa_e rfl h) rfl hM es rfl (by decide)
  rw [← em2] at es
  replace h := qa_aload (n := 0) (q := 11) (qa_e rfl h) rfl g0
  replace h := qa_aload (n := 0) (q := 12) (qa_e rfl h) rfl g0
  replace h := qa_gr (b := 118) (j := 25) (q := 15) (qa_e rfl h) rfl hM rfl (by decide)
  replace h := qa_push (z := (1 : Int32)) (q := 16) (qa_e rfl h) rfl (by decide)
  obtain ⟨m3, em3⟩ : ∃ x, x = (ma_159_99_118 N (1 : Int32) m2) := ⟨_, rfl⟩
  obtain ⟨M, h, hM, es⟩ := qa_c0 (y := 159) (as := [.ref 99, .ref 118, .int ((1 : Int32))]) (rest := []) (i := .invokevirtual 159) (q := 19) (qa_e rfl h) (Or.inl rfl) rfl rfl (by decide) rfl (fun r hc => mb_159_99_118 hN hM es hc)
  rw [← em3] at es
  replace h := qa_aload (n := 0) (q := 20) (qa_e rfl h) rfl g0
  replace h := qa_gi (j := 0) (q := 23) (qa_e rfl h) rfl hM es rfl (by decide)
  have er := qa_ri (qa_e rfl h)
  subst er
  have e0 : ma_166_99 N σ = ((m3 99 0), m3) := by exact Eq.trans (qa_ie em1) (Eq.trans (qa_ie em2) (Eq.trans (qa_ie em3) (rfl)))
  rw [e0]
  exact ⟨rfl, hM, es⟩
/-- BuriedBySevensModel, restore, ()I -/
noncomputable def ma_167_99 (N : Nat) (σ : qa_S) : Int32 × qa_S :=
  qa_in (qa_u σ 99 9 (0 : Int32)) fun m1 =>
  if (m1 99 26) = (0 : Int32) then
    qa_in ((ma_152_99 (-3 : Int32) m1)) fun r3 =>
    (r3.1, r3.2)
  else
    qa_in ((ma_159_99_118 N (0 : Int32) m1)) fun m4 =>
    qa_in (qa_u m4 99 32 (0 : Int32)) fun m5 =>
    ((m5 99 0), m5)
theorem mb_167_99 {f N : Nat} (hN : f ≤ N) {M : q4_M} {r : Option Value × q4_M} {σ : qa_S} (hM : qa_O M) (es : qa_s M = σ) (h : q4_run f 167 0 (lv_args 0 [.ref 99]) [] M 0 0 = some r) : r.1 = some (.int ((ma_167_99 N σ).1)) ∧ qa_O r.2 ∧ qa_s r.2 = (ma_167_99 N σ).2 := by
  obtain ⟨lv, el⟩ : ∃ l, l = lv_args 0 [.ref 99] := ⟨_, rfl⟩
  have g0 : q4_get lv 0 = some (.ref 99) := by rw [el]; rfl
  rw [← el] at h
  clear el
  replace h := qa_aload (n := 0) (q := 1) (qa_e rfl h) rfl g0
  replace h := qa_push (z := (0 : Int32)) (q := 2) (qa_e rfl h) rfl (by decide)
  obtain ⟨m1, em1⟩ : ∃ x, x = qa_u σ 99 9 (0 : Int32) := ⟨_, rfl⟩
  obtain ⟨M, h, hM, es⟩ := qa_pf (j := 9) (q := 5) (qa_e rfl h) rfl hM es rfl (by decide)
  rw [← em1] at es
  replace h := qa_aload (n := 0) (q := 6) (qa_e rfl h) rfl g0
  replace h := qa_gi (j := 26) (q := 9) (qa_e rfl h) rfl hM es rfl (by decide)
  by_cases c2 : (m1 99 26) = (0 : Int32)
  · replace h := qa_icf (q := 12) (qa_e rfl h) rfl (qa_F_ne c2)
    replace h := qa_aload (n := 0) (q := 13) (qa_e rfl h) rfl g0
    replace h := qa_push (z := (-3 : Int32)) (q := 15) (qa_e rfl h) rfl (by decide)
    obtain ⟨r3, er3⟩ : ∃ x, x = (ma_152_99 (-3 : Int32) m1) := ⟨_, rfl⟩
    obtain ⟨M, h, hM, es⟩ := qa_c1 (y := 152) (as := [.ref 99, .int ((-3 : Int32))]) (rest := []) (i := .invokevirtual 152) (q := 18) (qa_e rfl h) (Or.inl rfl) rfl rfl (by decide) rfl (fun r hc => mb_152_99 hM es hc)
    rw [← er3] at h es
    have er := qa_ri (qa_e rfl h)
    subst er
    have e0 : ma_167_99 N σ = (r3.1, r3.2) := by exact Eq.trans (qa_ie em1) (Eq.trans (if_pos c2) (Eq.trans (qa_ie er3) (rfl)))
    rw [e0]
    exact ⟨rfl, hM, es⟩
  · replace h := qa_ict (q := 19) (qa_e rfl h) rfl (qa_T_ne c2)
    replace h := qa_aload (n := 0) (q := 20) (qa_e rfl h) rfl g0
    replace h := qa_aload (n := 0) (q := 21) (qa_e rfl h) rfl g0
    replace h := qa_gr (b := 118) (j := 25) (q := 24) (qa_e rfl h) rfl hM rfl (by decide)
    replace h := qa_push (z := (0 : Int32)) (q := 25) (qa_e rfl h) rfl (by decide)
    obtain ⟨m4, em4⟩ : ∃ x, x = (ma_159_99_118 N (0 : Int32) m1) := ⟨_, rfl⟩
    obtain ⟨M, h, hM, es⟩ := qa_c0 (y := 159) (as := [.ref 99, .ref 118, .int ((0 : Int32))]) (rest := []) (i := .invokevirtual 159) (q := 28) (qa_e rfl h) (Or.inl rfl) rfl rfl (by decide) rfl (fun r hc => mb_159_99_118 hN hM es hc)
    rw [← em4] at es
    replace h := qa_aload (n := 0) (q := 29) (qa_e rfl h) rfl g0
    replace h := qa_push (z := (0 : Int32)) (q := 30) (qa_e rfl h) rfl (by decide)
    obtain ⟨m5, em5⟩ : ∃ x, x = qa_u m4 99 32 (0 : Int32) := ⟨_, rfl⟩
    obtain ⟨M, h, hM, es⟩ := qa_pf (j := 32) (q := 33) (qa_e rfl h) rfl hM es rfl (by decide)
    rw [← em5] at es
    replace h := qa_aload (n := 0) (q := 34) (qa_e rfl h) rfl g0
    replace h := qa_gi (j := 0) (q := 37) (qa_e rfl h) rfl hM es rfl (by decide)
    have er := qa_ri (qa_e rfl h)
    subst er
    have e0 : ma_167_99 N σ = ((m5 99 0), m5) := by exact Eq.trans (qa_ie em1) (Eq.trans (if_neg c2) (Eq.trans (qa_ie em4) (Eq.trans (qa_ie em5) (rfl))))
    rw [e0]
    exact ⟨rfl, hM, es⟩
noncomputable def mc_168_99_p31 (N : Nat) (s : Int32 × qa_S) : (Int32 × qa_S) ⊕ (Int32 × qa_S) :=
  if s.1 < (69 : Int32) then
    qa_in (qa_u s.2 120 s.1.toNatClampNeg (s.2 119 (((69 : Int32) * (s.2 99 32)) + s.1).toNatClampNeg)) fun m2 =>
    .inl ((s.1 + (1 : Int32)), m2)
  else
    .inr (s.1, s.2)
theorem md_168_99_p31 {N F : Nat} {r : Option Value × q4_M} (hN : F ≤ N) : ∀ f n, f ≤ n → f ≤ F → ∀ (s : Int32 × qa_S) (lv : List (Nat × Value)) (M : q4_M), qa_O M → qa_s M = s.2 → q4_get lv 0 = some (.ref 99) → q4_get lv 1 = some (.int (s.1)) → q4_run f 168 31 lv [] M 0 0 = some r → ∃ lv M, q4_run F 168 63 lv [] M 0 0 = some r ∧ qa_O M ∧ qa_s M = (qa_wh (fun s => s) (mc_168_99_p31 N) n s).2 ∧ q4_get lv 0 = some (.ref 99) := by
  intro f
  induction f with
  | zero => intro n _ _ s lv M hM es _ _ h; cases h
  | succ f ih =>
    intro n hn hF s lv M hM es g0 g1 h
    obtain ⟨n, rfl⟩ : ∃ n1, n = n1 + 1 := ⟨n - 1, by omega⟩
    replace hn : f ≤ n := Nat.le_of_succ_le_succ hn
    have hN := Nat.le_trans (Nat.le_of_succ_le hF) hN
    replace h := qa_iload (n := 1) (q := 32) (qa_d rfl h) rfl g1
    replace h := qa_push (z := (69 : Int32)) (q := 34) (qa_e rfl h) rfl (by decide)
    by_cases c1 : s.1 < (69 : Int32)
    · replace h := qa_iff (q := 37) (qa_e rfl h) rfl (qa_F_ge c1)
      replace h := qa_aload (n := 0) (q := 38) (qa_e rfl h) rfl g0
      replace h := qa_gr (b := 120) (j := 31) (q := 41) (qa_e rfl h) rfl hM rfl (by decide)
      replace h := qa_iload (n := 1) (q := 42) (qa_e rfl h) rfl g1
      replace h := qa_aload (n := 0) (q := 43) (qa_e rfl h) rfl g0
      replace h := qa_gr (b := 119) (j := 30) (q := 46) (qa_e rfl h) rfl hM rfl (by decide)
      replace h := qa_push (z := (69 : Int32)) (q := 48) (qa_e rfl h) rfl (by decide)
      replace h := qa_aload (n := 0) (q := 49) (qa_e rfl h) rfl g0
      replace h := qa_gi (j := 32) (q := 52) (qa_e rfl h) rfl hM es rfl (by decide)
      replace h := qa_imul (q := 53) (qa_e rfl h) rfl
      replace h := qa_iload (n := 1) (q := 54) (qa_e rfl h) rfl g1
      replace h := qa_iadd (q := 55) (qa_e rfl h) rfl
      replace h := qa_iaload (jn := (((69 : Int32) * (s.2 99 32)) + s.1).toNatClampNeg) (q := 56) (qa_e rfl h) rfl hM es rfl
      obtain ⟨m2, em2⟩ : ∃ x, x = qa_u s.2 120 s.1.toNatClampNeg (s.2 119 (((69 : Int32) * (s.2 99 32)) + s.1).toNatClampNeg) := ⟨_, rfl⟩
      obtain ⟨M, h, hM, es⟩ := qa_iastore (jn := s.1.toNatClampNeg) (q := 57) (qa_e rfl h) rfl hM es rfl
      rw [← em2] at es
      obtain ⟨lv, h, g, T⟩ := qa_iinc (n := 1) (z := (1 : Int32)) (q := 60) (qa_e rfl h) rfl (by decide) g1
      replace g0 := T _ _ g0 (by decide) (Or.inr rfl)
      replace g1 := g
      clear g T
      replace h := qa_goto (q := 31) (qa_e rfl h) rfl
      have e0 : mc_168_99_p31 N s = .inl ((s.1 + (1 : Int32)), m2) := by exact Eq.trans (if_pos c1) (Eq.trans (qa_ie em2) (rfl))
      rw [qa_whl e0]
      exact ih n hn (Nat.le_of_succ_le hF) ((s.1 + (1 : Int32)), m2) _ _ hM es g0 g1 h
    · replace h := qa_ift (q := 63) (qa_e rfl h) rfl (qa_T_ge c1)
      have e0 : mc_168_99_p31 N s = .inr (s.1, s.2) := by exact Eq.trans (if_neg c1) (rfl)
      rw [qa_whr e0]
      exact ⟨_, _, q61_mono f F _ _ _ _ _ _ _ _ (Nat.le_of_succ_le hF) h, hM, es, g0⟩
noncomputable def mc_159_99_120_p41 (N : Nat) (s : Int32 × qa_S) : (Int32 × qa_S) ⊕ (Int32 × qa_S) :=
  if s.1 < (7 : Int32) then
    qa_in ((ma_160_99 (s.2 100 s.1.toNatClampNeg) s.2)) fun r2 =>
    qa_in (qa_u r2.2 100 s.1.toNatClampNeg r2.1) fun m3 =>
    qa_in ((ma_160_99 (m3 101 s.1.toNatClampNeg) m3)) fun r4 =>
    qa_in (qa_u r4.2 101 s.1.toNatClampNeg r4.1) fun m5 =>
    qa_in ((ma_160_99 (m5 103 s.1.toNatClampNeg) m5)) fun r6 =>
    qa_in (qa_u r6.2 103 s.1.toNatClampNeg r6.1) fun m7 =>
    .inl ((s.1 + (1 : Int32)), m7)
  else
    .inr (s.1, s.2)
theorem md_159_99_120_p41 {N F : Nat} {r : Option Value × q4_M} (hN : F ≤ N) : ∀ f n, f ≤ n → f ≤ F → ∀ (s : Int32 × qa_S) (lv : List (Nat × Value)) (M : q4_M), qa_O M → qa_s M = s.2 → q4_get lv 0 = some (.ref 99) → q4_get lv 3 = some (.int (s.1)) → q4_run f 159 41 lv [] M 0 0 = some r → ∃ lv M, q4_run F 159 101 lv [] M 0 0 = some r ∧ qa_O M ∧ qa_s M = (qa_wh (fun s => s) (mc_159_99_120_p41 N) n s).2 ∧ q4_get lv 0 = some (.ref 99) := by
  intro f
  induction f with
  | zero => intro n _ _ s lv M hM es _ _ h; cases h
  | succ f ih =>
    intro n hn hF s lv M hM es g0 g3 h
    obtain ⟨n, rfl⟩ : ∃ n1, n = n1 + 1 := ⟨n - 1, by omega⟩
    replace hn : f ≤ n := Nat.le_of_succ_le_succ hn
    have hN := Nat.le_trans (Nat.le_of_succ_le hF) hN
    replace h := qa_iload (n := 3) (q := 42) (qa_d rfl h) rfl g3
    replace h := qa_push (z := (7 : Int32)) (q := 44) (qa_e rfl h) rfl (by decide)
    by_cases c1 : s.1 < (7 : Int32)
    · replace h := qa_iff (q := 47) (qa_e rfl h) rfl (qa_F_ge c1)
      replace h := qa_aload (n := 0) (q := 48) (qa_e rfl h) rfl g0
      replace h := qa_gr (b := 100) (j := 1) (q := 51) (qa_e rfl h) rfl hM rfl (by decide)
      replace h := qa_iload (n := 3) (q := 52) (qa_e rfl h) rfl g3
      replace h := qa_aload (n := 0) (q := 53) (qa_e rfl h) rfl g0
      replace h := qa_aload (n := 0) (q := 54) (qa_e rfl h) rfl g0
      replace h := qa_gr (b := 100) (j := 1) (q := 57) (qa_e rfl h) rfl hM rfl (by decide)
      replace h := qa_iload (n := 3) (q := 58) (qa_e rfl h) rfl g3
      replace h := qa_iaload (jn := s.1.toNatClampNeg) (q := 59) (qa_e rfl h) rfl hM es rfl
      obtain ⟨r2, er2⟩ : ∃ x, x = (ma_160_99 (s.2 100 s.1.toNatClampNeg) s.2) := ⟨_, rfl⟩
      obtain ⟨M, h, hM, es⟩ := qa_c1 (y := 160) (as := [.ref 99, .int ((s.2 100 s.1.toNatClampNeg))]) (rest := [.int (s.1), .ref 100]) (i := .invokevirtual 160) (q := 62) (qa_e rfl h) (Or.inl rfl) rfl rfl (by decide) rfl (fun r hc => mb_160_99 hM es hc)
      rw [← er2] at h es
      obtain ⟨m3, em3⟩ : ∃ x, x = qa_u r2.2 100 s.1.toNatClampNeg r2.1 := ⟨_, rfl⟩
      obtain ⟨M, h, hM, es⟩ := qa_iastore (jn := s.1.toNatClampNeg) (q := 63) (qa_e rfl h) rfl hM es rfl
      rw [← em3] at es
      replace h := qa_aload (n := 0) (q := 64) (qa_e rfl h) rfl g0
      replace h := qa_gr (b := 101) (j := 2) (q := 67) (qa_e rfl h) rfl hM rfl (by decide)
      replace h := qa_iload (n := 3) (q := 68) (qa_e rfl h) rfl g3
      replace h := qa_aload (n := 0) (q := 69) (qa_e rfl h) rfl g0
      replace h := qa_aload (n := 0) (q := 70) (qa_e rfl h) rfl g0
      replace h := qa_gr (b := 101) (j := 2) (q := 73) (qa_e rfl h) rfl hM rfl (by decide)
      replace h := qa_iload (n := 3) (q := 74) (qa_e rfl h) rfl g3
      replace h := qa_iaload (jn := s.1.toNatClampNeg) (q := 75) (qa_e rfl h) rfl hM es rfl
      obtain ⟨r4, er4⟩ : ∃ x, x = (ma_160_99 (m3 101 s.1.toNatClampNeg) m3) := ⟨_, rfl⟩
      obtain ⟨M, h, hM, es⟩ := qa_c1 (y := 160) (as := [.ref 99, .int ((m3 101 s.1.toNatClampNeg))]) (rest := [.int (s.1), .ref 101]) (i := .invokevirtual 160) (q := 78) (qa_e rfl h) (Or.inl rfl) rfl rfl (by decide) rfl (fun r hc => mb_160_99 hM es hc)
      rw [← er4] at h es
      obtain ⟨m5, em5⟩ : ∃ x, x = qa_u r4.2 101 s.1.toNatClampNeg r4.1 := ⟨_, rfl⟩
      obtain ⟨M, h, hM, es⟩ := qa_iastore (jn := s.1.toNatClampNeg) (q := 79) (qa_e rfl h) rfl hM es rfl
      rw [← em5] at es
      replace h := qa_aload (n := 0) (q := 80) (qa_e rfl h) rfl g0
      replace h := qa_gr (b := 103) (j := 4) (q := 83) (qa_e rfl h) rfl hM rfl (by decide)
      replace h := qa_iload (n := 3) (q := 84) (qa_e rfl h) rfl g3
      replace h := qa_aload (n := 0) (q := 85) (qa_e rfl h) rfl g0
      replace h := qa_aload (n := 0) (q := 86) (qa_e rfl h) rfl g0
      replace h := qa_gr (b := 103) (j := 4) (q := 89) (qa_e rfl h) rfl hM rfl (by decide)
      replace h := qa_iload (n := 3) (q := 90) (qa_e rfl h) rfl g3
      replace h := qa_iaload (jn := s.1.toNatClampNeg) (q := 91) (qa_e rfl h) rfl hM es rfl
      obtain ⟨r6, er6⟩ : ∃ x, x = (ma_160_99 (m5 103 s.1.toNatClampNeg) m5) := ⟨_, rfl⟩
      obtain ⟨M, h, hM, es⟩ := qa_c1 (y := 160) (as := [.ref 99, .int ((m5 103 s.1.toNatClampNeg))]) (rest := [.int (s.1), .ref 103]) (i := .invokevirtual 160) (q := 94) (qa_e rfl h) (Or.inl rfl) rfl rfl (by decide) rfl (fun r hc => mb_160_99 hM es hc)
      rw [← er6] at h es
      obtain ⟨m7, em7⟩ : ∃ x, x = qa_u r6.2 103 s.1.toNatClampNeg r6.1 := ⟨_, rfl⟩
      obtain ⟨M, h, hM, es⟩ := qa_iastore (jn := s.1.toNatClampNeg) (q := 95) (qa_e rfl h) rfl hM es rfl
      rw [← em7] at es
      obtain ⟨lv, h, g, T⟩ := qa_iinc (n := 3) (z := (1 : Int32)) (q := 98) (qa_e rfl h) rfl (by decide) g3
      replace g0 := T _ _ g0 (by decide) (Or.inr rfl)
      replace g3 := g
      clear g T
      replace h := qa_goto (q := 41) (qa_e rfl h) rfl
      have e0 : mc_159_99_120_p41 N s = .inl ((s.1 + (1 : Int32)), m7) := by exact Eq.trans (if_pos c1) (Eq.trans (qa_ie er2) (Eq.trans (qa_ie em3) (Eq.trans (qa_ie er4) (Eq.trans (qa_ie em5) (Eq.trans (qa_ie er6) (Eq.trans (qa_ie em7) (rfl)))))))
      rw [qa_whl e0]
      exact ih n hn (Nat.le_of_succ_le hF) ((s.1 + (1 : Int32)), m7) _ _ hM es g0 g3 h
    · replace h := qa_ift (q := 101) (qa_e rfl h) rfl (qa_T_ge c1)
      have e0 : mc_159_99_120_p41 N s = .inr (s.1, s.2) := by exact Eq.trans (if_neg c1) (rfl)
      rw [qa_whr e0]
      exact ⟨_, _, q61_mono f F _ _ _ _ _ _ _ _ (Nat.le_of_succ_le hF) h, hM, es, g0⟩
noncomputable def mc_159_99_120_p103 (N : Nat) (s : Int32 × qa_S) : (Int32 × qa_S) ⊕ (Int32 × qa_S) :=
  if s.1 < (28 : Int32) then
    qa_in ((ma_160_99 (s.2 102 s.1.toNatClampNeg) s.2)) fun r2 =>
    qa_in (qa_u r2.2 102 s.1.toNatClampNeg r2.1) fun m3 =>
    .inl ((s.1 + (1 : Int32)), m3)
  else
    .inr (s.1, s.2)
theorem md_159_99_120_p103 {N F : Nat} {r : Option Value × q4_M} (hN : F ≤ N) : ∀ f n, f ≤ n → f ≤ F → ∀ (s : Int32 × qa_S) (lv : List (Nat × Value)) (M : q4_M), qa_O M → qa_s M = s.2 → q4_get lv 0 = some (.ref 99) → q4_get lv 3 = some (.int (s.1)) → q4_run f 159 103 lv [] M 0 0 = some r → ∃ lv M, q4_run F 159 131 lv [] M 0 0 = some r ∧ qa_O M ∧ qa_s M = (qa_wh (fun s => s) (mc_159_99_120_p103 N) n s).2 ∧ q4_get lv 0 = some (.ref 99) := by
  intro f
  induction f with
  | zero => intro n _ _ s lv M hM es _ _ h; cases h
  | succ f ih =>
    intro n hn hF s lv M hM es g0 g3 h
    obtain ⟨n, rfl⟩ : ∃ n1, n = n1 + 1 := ⟨n - 1, by omega⟩
    replace hn : f ≤ n := Nat.le_of_succ_le_succ hn
    have hN := Nat.le_trans (Nat.le_of_succ_le hF) hN
    replace h := qa_iload (n := 3) (q := 104) (qa_d rfl h) rfl g3
    replace h := qa_push (z := (28 : Int32)) (q := 106) (qa_e rfl h) rfl (by decide)
    by_cases c1 : s.1 < (28 : Int32)
    · replace h := qa_iff (q := 109) (qa_e rfl h) rfl (qa_F_ge c1)
      replace h := qa_aload (n := 0) (q := 110) (qa_e rfl h) rfl g0
      replace h := qa_gr (b := 102) (j := 3) (q := 113) (qa_e rfl h) rfl hM rfl (by decide)
      replace h := qa_iload (n := 3) (q := 114) (qa_e rfl h) rfl g3
      replace h := qa_aload (n := 0) (q := 115) (qa_e rfl h) rfl g0
      replace h := qa_aload (n := 0) (q := 116) (qa_e rfl h) rfl g0
      replace h := qa_gr (b := 102) (j := 3) (q := 119) (qa_e rfl h) rfl hM rfl (by decide)
      replace h := qa_iload (n := 3) (q := 120) (qa_e rfl h) rfl g3
      replace h := qa_iaload (jn := s.1.toNatClampNeg) (q := 121) (qa_e rfl h) rfl hM es rfl
      obtain ⟨r2, er2⟩ : ∃ x, x = (ma_160_99 (s.2 102 s.1.toNatClampNeg) s.2) := ⟨_, rfl⟩
      obtain ⟨M, h, hM, es⟩ := qa_c1 (y := 160) (as := [.ref 99, .int ((s.2 102 s.1.toNatClampNeg))]) (rest := [.int (s.1), .ref 102]) (i := .invokevirtual 160) (q := 124) (qa_e rfl h) (Or.inl rfl) rfl rfl (by decide) rfl (fun r hc => mb_160_99 hM es hc)
      rw [← er2] at h es
      obtain ⟨m3, em3⟩ : ∃ x, x = qa_u r2.2 102 s.1.toNatClampNeg r2.1 := ⟨_, rfl⟩
      obtain ⟨M, h, hM, es⟩ := qa_iastore (jn := s.1.toNatClampNeg) (q := 125) (qa_e rfl h) rfl hM es rfl
      rw [← em3] at es
      obtain ⟨lv, h, g, T⟩ := qa_iinc (n := 3) (z := (1 : Int32)) (q := 128) (qa_e rfl h) rfl (by decide) g3
      replace g0 := T _ _ g0 (by decide) (Or.inr rfl)
      replace g3 := g
      clear g T
      replace h := qa_goto (q := 103) (qa_e rfl h) rfl
      have e0 : mc_159_99_120_p103 N s = .inl ((s.1 + (1 : Int32)), m3) := by exact Eq.trans (if_pos c1) (Eq.trans (qa_ie er2) (Eq.trans (qa_ie em3) (rfl)))
      rw [qa_whl e0]
      exact ih n hn (Nat.le_of_succ_le hF) ((s.1 + (1 : Int32)), m3) _ _ hM es g0 g3 h
    · replace h := qa_ift (q := 131) (qa_e rfl h) rfl (qa_T_ge c1)
      have e0 : mc_159_99_120_p103 N s = .inr (s.1, s.2) := by exact Eq.trans (if_neg c1) (rfl)
      rw [qa_whr e0]
      exact ⟨_, _, q61_mono f F _ _ _ _ _ _ _ _ (Nat.le_of_succ_le hF) h, hM, es, g0⟩
noncomputable def mc_159_99_120_p133 (N : Nat) (s : Int32 × qa_S) : (Int32 × qa_S) ⊕ (Int32 × qa_S) :=
  if s.1 < (6 : Int32) then
    qa_in ((ma_160_99 (s.2 104 s.1.toNatClampNeg) s.2)) fun r2 =>
    qa_in (qa_u r2.2 104 s.1.toNatClampNeg r2.1) fun m3 =>
    qa_in ((ma_160_99 (m3 105 s.1.toNatClampNeg) m3)) fun r4 =>
    qa_in (qa_u r4.2 105 s.1.toNatClampNeg r4.1) fun m5 =>
    qa_in ((ma_160_99 (m5 106 s.1.toNatClampNeg) m5)) fun r6 =>
    qa_in (qa_u r6.2 106 s.1.toNatClampNeg r6.1) fun m7 =>
    .inl ((s.1 + (1 : Int32)), m7)
  else
    .inr (s.1, s.2)
theorem md_159_99_120_p133 {N F : Nat} {r : Option Value × q4_M} (hN : F ≤ N) : ∀ f n, f ≤ n → f ≤ F → ∀ (s : Int32 × qa_S) (lv : List (Nat × Value)) (M : q4_M), qa_O M → qa_s M = s.2 → q4_get lv 0 = some (.ref 99) → q4_get lv 3 = some (.int (s.1)) → q4_run f 159 133 lv [] M 0 0 = some r → ∃ lv M, q4_run F 159 193 lv [] M 0 0 = some r ∧ qa_O M ∧ qa_s M = (qa_wh (fun s => s) (mc_159_99_120_p133 N) n s).2 := by
  intro f
  induction f with
  | zero => intro n _ _ s lv M hM es _ _ h; cases h
  | succ f ih =>
    intro n hn hF s lv M hM es g0 g3 h
    obtain ⟨n, rfl⟩ : ∃ n1, n = n1 + 1 := ⟨n - 1, by omega⟩
    replace hn : f ≤ n := Nat.le_of_succ_le_succ hn
    have hN := Nat.le_trans (Nat.le_of_succ_le hF) hN
    replace h := qa_iload (n := 3) (q := 134) (qa_d rfl h) rfl g3
    replace h := qa_push (z := (6 : Int32)) (q := 136) (qa_e rfl h) rfl (by decide)
    by_cases c1 : s.1 < (6 : Int32)
    · replace h := qa_iff (q := 139) (qa_e rfl h) rfl (qa_F_ge c1)
      replace h := qa_aload (n := 0) (q := 140) (qa_e rfl h) rfl g0
      replace h := qa_gr (b := 104) (j := 6) (q := 143) (qa_e rfl h) rfl hM rfl (by decide)
      replace h := qa_iload (n := 3) (q := 144) (qa_e rfl h) rfl g3
      replace h := qa_aload (n := 0) (q := 145) (qa_e rfl h) rfl g0
      replace h := qa_aload (n := 0) (q := 146) (qa_e rfl h) rfl g0
      replace h := qa_gr (b := 104) (j := 6) (q := 149) (qa_e rfl h) rfl hM rfl (by decide)
      replace h := qa_iload (n := 3) (q := 150) (qa_e rfl h) rfl g3
      replace h := qa_iaload (jn := s.1.toNatClampNeg) (q := 151) (qa_e rfl h) rfl hM es rfl
      obtain ⟨r2, er2⟩ : ∃ x, x = (ma_160_99 (s.2 104 s.1.toNatClampNeg) s.2) := ⟨_, rfl⟩
      obtain ⟨M, h, hM, es⟩ := qa_c1 (y := 160) (as := [.ref 99, .int ((s.2 104 s.1.toNatClampNeg))]) (rest := [.int (s.1), .ref 104]) (i := .invokevirtual 160) (q := 154) (qa_e rfl h) (Or.inl rfl) rfl rfl (by decide) rfl (fun r hc => mb_160_99 hM es hc)
      rw [← er2] at h es
      obtain ⟨m3, em3⟩ : ∃ x, x = qa_u r2.2 104 s.1.toNatClampNeg r2.1 := ⟨_, rfl⟩
      obtain ⟨M, h, hM, es⟩ := qa_iastore (jn := s.1.toNatClampNeg) (q := 155) (qa_e rfl h) rfl hM es rfl
      rw [← em3] at es
      replace h := qa_aload (n := 0) (q := 156) (qa_e rfl h) rfl g0
      replace h := qa_gr (b := 105) (j := 7) (q := 159) (qa_e rfl h) rfl hM rfl (by decide)
      replace h := qa_iload (n := 3) (q := 160) (qa_e rfl h) rfl g3
      replace h := qa_aload (n := 0) (q := 161) (qa_e rfl h) rfl g0
      replace h := qa_aload (n := 0) (q := 162) (qa_e rfl h) rfl g0
      replace h := qa_gr (b := 105) (j := 7) (q := 165) (qa_e rfl h) rfl hM rfl (by decide)
      replace h := qa_iload (n := 3) (q := 166) (qa_e rfl h) rfl g3
      replace h := qa_iaload (jn := s.1.toNatClampNeg) (q := 167) (qa_e rfl h) rfl hM es rfl
      obtain ⟨r4, er4⟩ : ∃ x, x = (ma_160_99 (m3 105 s.1.toNatClampNeg) m3) := ⟨_, rfl⟩
      obtain ⟨M, h, hM, es⟩ := qa_c1 (y := 160) (as := [.ref 99, .int ((m3 105 s.1.toNatClampNeg))]) (rest := [.int (s.1), .ref 105]) (i := .invokevirtual 160) (q := 170) (qa_e rfl h) (Or.inl rfl) rfl rfl (by decide) rfl (fun r hc => mb_160_99 hM es hc)
      rw [← er4] at h es
      obtain ⟨m5, em5⟩ : ∃ x, x = qa_u r4.2 105 s.1.toNatClampNeg r4.1 := ⟨_, rfl⟩
      obtain ⟨M, h, hM, es⟩ := qa_iastore (jn := s.1.toNatClampNeg) (q := 171) (qa_e rfl h) rfl hM es rfl
      rw [← em5] at es
      replace h := qa_aload (n := 0) (q := 172) (qa_e rfl h) rfl g0
      replace h := qa_gr (b := 106) (j := 8) (q := 175) (qa_e rfl h) rfl hM rfl (by decide)
      replace h := qa_iload (n := 3) (q := 176) (qa_e rfl h) rfl g3
      replace h := qa_aload (n := 0) (q := 177) (qa_e rfl h) rfl g0
      replace h := qa_aload (n := 0) (q := 178) (qa_e rfl h) rfl g0
      replace h := qa_gr (b := 106) (j := 8) (q := 181) (qa_e rfl h) rfl hM rfl (by decide)
      replace h := qa_iload (n := 3) (q := 182) (qa_e rfl h) rfl g3
      replace h := qa_iaload (jn := s.1.toNatClampNeg) (q := 183) (qa_e rfl h) rfl hM es rfl
      obtain ⟨r6, er6⟩ : ∃ x, x = (ma_160_99 (m5 106 s.1.toNatClampNeg) m5) := ⟨_, rfl⟩
      obtain ⟨M, h, hM, es⟩ := qa_c1 (y := 160) (as := [.ref 99, .int ((m5 106 s.1.toNatClampNeg))]) (rest := [.int (s.1), .ref 106]) (i := .invokevirtual 160) (q := 186) (qa_e rfl h) (Or.inl rfl) rfl rfl (by decide) rfl (fun r hc => mb_160_99 hM es hc)
      rw [← er6] at h es
      obtain ⟨m7, em7⟩ : ∃ x, x = qa_u r6.2 106 s.1.toNatClampNeg r6.1 := ⟨_, rfl⟩
      obtain ⟨M, h, hM, es⟩ := qa_iastore (jn := s.1.toNatClampNeg) (q := 187) (qa_e rfl h) rfl hM es rfl
      rw [← em7] at es
      obtain ⟨lv, h, g, T⟩ := qa_iinc (n := 3) (z := (1 : Int32)) (q := 190) (qa_e rfl h) rfl (by decide) g3
      replace g0 := T _ _ g0 (by decide) (Or.inr rfl)
      replace g3 := g
      clear g T
      replace h := qa_goto (q := 133) (qa_e rfl h) rfl
      have e0 : mc_159_99_120_p133 N s = .inl ((s.1 + (1 : Int32)), m7) := by exact Eq.trans (if_pos c1) (Eq.trans (qa_ie er2) (Eq.trans (qa_ie em3) (Eq.trans (qa_ie er4) (Eq.trans (qa_ie em5) (Eq.trans (qa_ie er6) (Eq.trans (qa_ie em7) (rfl)))))))
      rw [qa_whl e0]
      exact ih n hn (Nat.le_of_succ_le hF) ((s.1 + (1 : Int32)), m7) _ _ hM es g0 g3 h
    · replace h := qa_ift (q := 193) (qa_e rfl h) rfl (qa_T_ge c1)
      have e0 : mc_159_99_120_p133 N s = .inr (s.1, s.2) := by exact Eq.trans (if_neg c1) (rfl)
      rw [qa_whr e0]
      exact ⟨_, _, q61_mono f F _ _ _ _ _ _ _ _ (Nat.le_of_succ_le hF) h, hM, es⟩
/-- BuriedBySevensModel, carryAll, ([IZ)V -/
noncomputable def ma_159_99_120 (N : Nat) (a2 : Int32) (σ : qa_S) : qa_S :=
  qa_in (qa_u σ 99 29 (120 : Int32)) fun m1 =>
  qa_in (qa_u m1 99 28 a2) fun m2 =>
  qa_in (qa_u m2 99 27 (0 : Int32)) fun m3 =>
  qa_in ((ma_160_99 (m3 99 0) m3)) fun r4 =>
  qa_in (qa_u r4.2 99 0 r4.1) fun m5 =>
  qa_in ((ma_160_99 (m5 99 5) m5)) fun r6 =>
  qa_in (qa_u r6.2 99 5 r6.1) fun m7 =>
  qa_in ((qa_wh (fun s => s) (mc_159_99_120_p41 N) N ((0 : Int32), m7))) fun r8 =>
  qa_in ((qa_wh (fun s => s) (mc_159_99_120_p103 N) N ((0 : Int32), r8.2))) fun r9 =>
  qa_in ((qa_wh (fun s => s) (mc_159_99_120_p133 N) N ((0 : Int32), r9.2))) fun r10 =>
  r10.2
theorem mb_159_99_120 {f N : Nat} (hN : f ≤ N) {M : q4_M} {r : Option Value × q4_M} {σ : qa_S} {a2 : Int32} (hM : qa_O M) (es : qa_s M = σ) (h : q4_run f 159 0 (lv_args 0 [.ref 99, .ref 120, .int (a2)]) [] M 0 0 = some r) : r.1 = none ∧ qa_O r.2 ∧ qa_s r.2 = (ma_159_99_120 N a2 σ) := by
  obtain ⟨lv, el⟩ : ∃ l, l = lv_args 0 [.ref 99, .ref 120, .int (a2)] := ⟨_, rfl⟩
  have g0 : q4_get lv 0 = some (.ref 99) := by rw [el]; rfl
  have g1 : q4_get lv 1 = some (.ref 120) := by rw [el]; rfl
  have g2 : q4_get lv 2 = some (.int (a2)) := by rw [el]; rfl
  rw [← el] at h
  clear el
  replace h := qa_aload (n := 0) (q := 1) (qa_e rfl h) rfl g0
  replace h := qa_aload (n := 1) (q := 2) (qa_e rfl h) rfl g1
  obtain ⟨m1, em1⟩ : ∃ x, x = qa_u σ 99 29 (120 : Int32) := ⟨_, rfl⟩
  obtain ⟨M, h, hM, es⟩ := qa_pk (j := 29) (z := (120 : Int32)) (q := 5) (qa_e rfl h) rfl hM es rfl (by decide) (by decide)
  rw [← em1] at es
  replace h := qa_aload (n := 0) (q := 6) (qa_e rfl h) rfl g0
  replace h := qa_iload (n := 2) (q := 7) (qa_e rfl h) rfl g2
  obtain ⟨m2, em2⟩ : ∃ x, x = qa_u m1 99 28 a2 := ⟨_, rfl⟩
  obtain ⟨M, h, hM, es⟩ := qa_pf (j := 28) (q := 10) (qa_e rfl h) rfl hM es rfl (by decide)
  rw [← em2] at es
  replace h := qa_aload (n := 0) (q := 11) (qa_e rfl h) rfl g0
  replace h := qa_push (z := (0 : Int32)) (q := 12) (qa_e rfl h) rfl (by decide)
  obtain ⟨m3, em3⟩ : ∃ x, x = qa_u m2 99 27 (0 : Int32) := ⟨_, rfl⟩
  obtain ⟨M, h, hM, es⟩ := qa_pf (j := 27) (q := 15) (qa_e rfl h) rfl hM es rfl (by decide)
  rw [← em3] at es
  replace h := qa_aload (n := 0) (q := 16) (qa_e rfl h) rfl g0
  replace h := qa_aload (n := 0) (q := 17) (qa_e rfl h) rfl g0
  replace h := qa_aload (n := 0) (q := 18) (qa_e rfl h) rfl g0
  replace h := qa_gi (j := 0) (q := 21) (qa_e rfl h) rfl hM es rfl (by decide)
  obtain ⟨r4, er4⟩ : ∃ x, x = (ma_160_99 (m3 99 0) m3) := ⟨_, rfl⟩
  obtain ⟨M, h, hM, es⟩ := qa_c1 (y := 160) (as := [.ref 99, .int ((m3 99 0))]) (rest := [.ref 99]) (i := .invokevirtual 160) (q := 24) (qa_e rfl h) (Or.inl rfl) rfl rfl (by decide) rfl (fun r hc => mb_160_99 hM es hc)
  rw [← er4] at h es
  obtain ⟨m5, em5⟩ : ∃ x, x = qa_u r4.2 99 0 r4.1 := ⟨_, rfl⟩
  obtain ⟨M, h, hM, es⟩ := qa_pf (j := 0) (q := 27) (qa_e rfl h) rfl hM es rfl (by decide)
  rw [← em5] at es
  replace h := qa_aload (n := 0) (q := 28) (qa_e rfl h) rfl g0
  replace h := qa_aload (n := 0) (q := 29) (qa_e rfl h) rfl g0
  replace h := qa_aload (n := 0) (q := 30) (qa_e rfl h) rfl g0
  replace h := qa_gi (j := 5) (q := 33) (qa_e rfl h) rfl hM es rfl (by decide)
  obtain ⟨r6, er6⟩ : ∃ x, x = (ma_160_99 (m5 99 5) m5) := ⟨_, rfl⟩
  obtain ⟨M, h, hM, es⟩ := qa_c1 (y := 160) (as := [.ref 99, .int ((m5 99 5))]) (rest := [.ref 99]) (i := .invokevirtual 160) (q := 36) (qa_e rfl h) (Or.inl rfl) rfl rfl (by decide) rfl (fun r hc => mb_160_99 hM es hc)
  rw [← er6] at h es
  obtain ⟨m7, em7⟩ : ∃ x, x = qa_u r6.2 99 5 r6.1 := ⟨_, rfl⟩
  obtain ⟨M, h, hM, es⟩ := qa_pf (j := 5) (q := 39) (qa_e rfl h) rfl hM es rfl (by decide)
  rw [← em7] at es
  replace h := qa_push (z := (0 : Int32)) (q := 40) (qa_e rfl h) rfl (by decide)
  obtain ⟨lv, h, g, T⟩ := qa_istore (n := 3) (q := 41) (qa_e rfl h) rfl
  replace g0 := T _ _ g0 (by decide) (Or.inr rfl)
  have g3 := g
  clear g T
  obtain ⟨r8, er8⟩ : ∃ x, x = (qa_wh (fun s => s) (mc_159_99_120_p41 N) N ((0 : Int32), m7)) := ⟨_, rfl⟩
  have L := md_159_99_120_p41 (F := f) (N := N) (r := r) hN f N hN (Nat.le_refl f) ((0 : Int32), m7) _ _ hM es g0 g3 h
  rw [← er8] at L
  obtain ⟨lv, M, h, hM, es, g0⟩ := L
  replace h := qa_push (z := (0 : Int32)) (q := 102) (qa_e rfl h) rfl (by decide)
  obtain ⟨lv, h, g, T⟩ := qa_istore (n := 3) (q := 103) (qa_e rfl h) rfl
  replace g0 := T _ _ g0 (by decide) (Or.inr rfl)
  have g3 := g
  clear g T
  obtain ⟨r9, er9⟩ : ∃ x, x = (qa_wh (fun s => s) (mc_159_99_120_p103 N) N ((0 : Int32), r8.2)) := ⟨_, rfl⟩
  have L := md_159_99_120_p103 (F := f) (N := N) (r := r) hN f N hN (Nat.le_refl f) ((0 : Int32), r8.2) _ _ hM es g0 g3 h
  rw [← er9] at L
  obtain ⟨lv, M, h, hM, es, g0⟩ := L
  replace h := qa_push (z := (0 : Int32)) (q := 132) (qa_e rfl h) rfl (by decide)
  obtain ⟨lv, h, g, T⟩ := qa_istore (n := 3) (q := 133) (qa_e rfl h) rfl
  replace g0 := T _ _ g0 (by decide) (Or.inr rfl)
  have g3 := g
  clear g T
  obtain ⟨r10, er10⟩ : ∃ x, x = (qa_wh (fun s => s) (mc_159_99_120_p133 N) N ((0 : Int32), r9.2)) := ⟨_, rfl⟩
  have L := md_159_99_120_p133 (F := f) (N := N) (r := r) hN f N hN (Nat.le_refl f) ((0 : Int32), r9.2) _ _ hM es g0 g3 h
  rw [← er10] at L
  obtain ⟨lv, M, h, hM, es⟩ := L
  have er := qa_rv (qa_e rfl h)
  subst er
  have e0 : ma_159_99_120 N a2 σ = r10.2 := by exact Eq.trans (qa_ie em1) (Eq.trans (qa_ie em2) (Eq.trans (qa_ie em3) (Eq.trans (qa_ie er4) (Eq.trans (qa_ie em5) (Eq.trans (qa_ie er6) (Eq.trans (qa_ie em7) (Eq.trans (qa_ie er8) (Eq.trans (qa_ie er9) (Eq.trans (qa_ie er10) (rfl))))))))))
  rw [e0]
  exact ⟨rfl, hM, es⟩
/-- BuriedBySevensModel, back, ()I -/
noncomputable def ma_168_99 (N : Nat) (σ : qa_S) : Int32 × qa_S :=
  qa_in (qa_u σ 99 9 (0 : Int32)) fun m1 =>
  if (m1 99 32) = (0 : Int32) then
    qa_in ((ma_152_99 (-3 : Int32) m1)) fun r3 =>
    (r3.1, r3.2)
  else
    qa_in (qa_u m1 99 32 ((m1 99 32) - (1 : Int32))) fun m4 =>
    qa_in ((qa_wh (fun s => s) (mc_168_99_p31 N) N ((0 : Int32), m4))) fun r5 =>
    qa_in ((ma_159_99_120 N (0 : Int32) r5.2)) fun m6 =>
    ((m6 99 32), m6)
theorem mb_168_99 {f N : Nat} (hN : f ≤ N) {M : q4_M} {r : Option Value × q4_M} {σ : qa_S} (hM : qa_O M) (es : qa_s M = σ) (h : q4_run f 168 0 (lv_args 0 [.ref 99]) [] M 0 0 = some r) : r.1 = some (.int ((ma_168_99 N σ).1)) ∧ qa_O r.2 ∧ qa_s r.2 = (ma_168_99 N σ).2 := by
  obtain ⟨lv, el⟩ : ∃ l, l = lv_args 0 [.ref 99] := ⟨_, rfl⟩
  have g0 : q4_get lv 0 = some (.ref 99) := by rw [el]; rfl
  rw [← el] at h
  clear el
  replace h := qa_aload (n := 0) (q := 1) (qa_e rfl h) rfl g0
  replace h := qa_push (z := (0 : Int32)) (q := 2) (qa_e rfl h) rfl (by decide)
  obtain ⟨m1, em1⟩ : ∃ x, x = qa_u σ 99 9 (0 : Int32) := ⟨_, rfl⟩
  obtain ⟨M, h, hM, es⟩ := qa_pf (j := 9) (q := 5) (qa_e rfl h) rfl hM es rfl (by decide)
  rw [← em1] at es
  replace h := qa_aload (n := 0) (q := 6) (qa_e rfl h) rfl g0
  replace h := qa_gi (j := 32) (q := 9) (qa_e rfl h) rfl hM es rfl (by decide)
  by_cases c2 : (m1 99 32) = (0 : Int32)
  · replace h := qa_icf (q := 12) (qa_e rfl h) rfl (qa_F_ne c2)
    replace h := qa_aload (n := 0) (q := 13) (qa_e rfl h) rfl g0
    replace h := qa_push (z := (-3 : Int32)) (q := 15) (qa_e rfl h) rfl (by decide)
    obtain ⟨r3, er3⟩ : ∃ x, x = (ma_152_99 (-3 : Int32) m1) := ⟨_, rfl⟩
    obtain ⟨M, h, hM, es⟩ := qa_c1 (y := 152) (as := [.ref 99, .int ((-3 : Int32))]) (rest := []) (i := .invokevirtual 152) (q := 18) (qa_e rfl h) (Or.inl rfl) rfl rfl (by decide) rfl (fun r hc => mb_152_99 hM es hc)
    rw [← er3] at h es
    have er := qa_ri (qa_e rfl h)
    subst er
    have e0 : ma_168_99 N σ = (r3.1, r3.2) := by exact Eq.trans (qa_ie em1) (Eq.trans (if_pos c2) (Eq.trans (qa_ie er3) (rfl)))
    rw [e0]
    exact ⟨rfl, hM, es⟩
  · replace h := qa_ict (q := 19) (qa_e rfl h) rfl (qa_T_ne c2)
    replace h := qa_aload (n := 0) (q := 20) (qa_e rfl h) rfl g0
    replace h := qa_dupa (q := 21) (qa_e rfl h) rfl
    replace h := qa_gi (j := 32) (q := 24) (qa_e rfl h) rfl hM es rfl (by decide)
    replace h := qa_push (z := (1 : Int32)) (q := 25) (qa_e rfl h) rfl (by decide)
    replace h := qa_isub (q := 26) (qa_e rfl h) rfl
    obtain ⟨m4, em4⟩ : ∃ x, x = qa_u m1 99 32 ((m1 99 32) - (1 : Int32)) := ⟨_, rfl⟩
    obtain ⟨M, h, hM, es⟩ := qa_pf (j := 32) (q := 29) (qa_e rfl h) rfl hM es rfl (by decide)
    rw [← em4] at es
    replace h := qa_push (z := (0 : Int32)) (q := 30) (qa_e rfl h) rfl (by decide)
    obtain ⟨lv, h, g, T⟩ := qa_istore (n := 1) (q := 31) (qa_e rfl h) rfl
    replace g0 := T _ _ g0 (by decide) (Or.inr rfl)
    have g1 := g
    clear g T
    obtain ⟨r5, er5⟩ : ∃ x, x = (qa_wh (fun s => s) (mc_168_99_p31 N) N ((0 : Int32), m4)) := ⟨_, rfl⟩
    have L := md_168_99_p31 (F := f) (N := N) (r := r) hN f N hN (Nat.le_refl f) ((0 : Int32), m4) _ _ hM es g0 g1 h
    rw [← er5] at L
    obtain ⟨lv, M, h, hM, es, g0⟩ := L
    replace h := qa_aload (n := 0) (q := 64) (qa_e rfl h) rfl g0
    replace h := qa_aload (n := 0) (q := 65) (qa_e rfl h) rfl g0
    replace h := qa_gr (b := 120) (j := 31) (q := 68) (qa_e rfl h) rfl hM rfl (by decide)
    replace h := qa_push (z := (0 : Int32)) (q := 69) (qa_e rfl h) rfl (by decide)
    obtain ⟨m6, em6⟩ : ∃ x, x = (ma_159_99_120 N (0 : Int32) r5.2) := ⟨_, rfl⟩
    obtain ⟨M, h, hM, es⟩ := qa_c0 (y := 159) (as := [.ref 99, .ref 120, .int ((0 : Int32))]) (rest := []) (i := .invokevirtual 159) (q := 72) (qa_e rfl h) (Or.inl rfl) rfl rfl (by decide) rfl (fun r hc => mb_159_99_120 hN hM es hc)
    rw [← em6] at es
    replace h := qa_aload (n := 0) (q := 73) (qa_e rfl h) rfl g0
    replace h := qa_gi (j := 32) (q := 76) (qa_e rfl h) rfl hM es rfl (by decide)
    have er := qa_ri (qa_e rfl h)
    subst er
    have e0 : ma_168_99 N σ = ((m6 99 32), m6) := by exact Eq.trans (qa_ie em1) (Eq.trans (if_neg c2) (Eq.trans (qa_ie em4) (Eq.trans (qa_ie er5) (Eq.trans (qa_ie em6) (rfl)))))
    rw [e0]
    exact ⟨rfl, hM, es⟩
/-- BuriedBySevensModel, cask, (II)I -/
noncomputable def ma_169_99 (a1 : Int32) (a2 : Int32) (σ : qa_S) : Int32 × qa_S :=
  qa_in (qa_u σ 99 9 (0 : Int32)) fun m1 =>
  if (ma_163_99 a1 m1) = (0 : Int32) then
    qa_in ((ma_152_99 (if (ma_163_99 a1 m1) = (0 : Int32) then (-1 : Int32) else (-2 : Int32)) m1)) fun r4 =>
    (r4.1, r4.2)
  else
    if (ma_158 (a2).toInt64 (0 : Int64) (6 : Int64)) = (0 : Int32) then
      qa_in ((ma_152_99 (if (ma_163_99 a1 m1) = (0 : Int32) then (-1 : Int32) else (-2 : Int32)) m1)) fun r7 =>
      (r7.1, r7.2)
    else
      ((if a2 = (0 : Int32) then (m1 100 a1.toNatClampNeg) else (if a2 = (1 : Int32) then (m1 101 a1.toNatClampNeg) else (if a2 = (6 : Int32) then (m1 103 a1.toNatClampNeg) else (m1 102 ((((4 : Int32) * a1) + a2) - (2 : Int32)).toNatClampNeg)))), m1)
theorem mb_169_99 {f : Nat} {M : q4_M} {r : Option Value × q4_M} {σ : qa_S} {a1 : Int32} {a2 : Int32} (hM : qa_O M) (es : qa_s M = σ) (h : q4_run f 169 0 (lv_args 0 [.ref 99, .int (a1), .int (a2)]) [] M 0 0 = some r) : r.1 = some (.int ((ma_169_99 a1 a2 σ).1)) ∧ qa_O r.2 ∧ qa_s r.2 = (ma_169_99 a1 a2 σ).2 := by
  obtain ⟨lv, el⟩ : ∃ l, l = lv_args 0 [.ref 99, .int (a1), .int (a2)] := ⟨_, rfl⟩
  have g0 : q4_get lv 0 = some (.ref 99) := by rw [el]; rfl
  have g1 : q4_get lv 1 = some (.int (a1)) := by rw [el]; rfl
  have g2 : q4_get lv 2 = some (.int (a2)) := by rw [el]; rfl
  rw [← el] at h
  clear el
  replace h := qa_aload (n := 0) (q := 1) (qa_e rfl h) rfl g0
  replace h := qa_push (z := (0 : Int32)) (q := 2) (qa_e rfl h) rfl (by decide)
  obtain ⟨m1, em1⟩ : ∃ x, x = qa_u σ 99 9 (0 : Int32) := ⟨_, rfl⟩
  obtain ⟨M, h, hM, es⟩ := qa_pf (j := 9) (q := 5) (qa_e rfl h) rfl hM es rfl (by decide)
  rw [← em1] at es
  replace h := qa_aload (n := 0) (q := 6) (qa_e rfl h) rfl g0
  replace h := qa_iload (n := 1) (q := 7) (qa_e rfl h) rfl g1
  obtain ⟨M, h, hM, es⟩ := qa_c1 (y := 163) (as := [.ref 99, .int (a1)]) (rest := []) (i := .invokevirtual 163) (q := 10) (qa_e rfl h) (Or.inl rfl) rfl rfl (by decide) rfl (fun r hc => mb_163_99 hM es hc)
  by_cases c2 : (ma_163_99 a1 m1) = (0 : Int32)
  · replace h := qa_ict (q := 25) (qa_e rfl h) rfl (qa_T_eq c2)
    replace h := qa_aload (n := 0) (q := 26) (qa_e rfl h) rfl g0
    replace h := qa_aload (n := 0) (q := 27) (qa_e rfl h) rfl g0
    replace h := qa_iload (n := 1) (q := 28) (qa_e rfl h) rfl g1
    obtain ⟨M, h, hM, es⟩ := qa_c1 (y := 163) (as := [.ref 99, .int (a1)]) (rest := [.ref 99]) (i := .invokevirtual 163) (q := 31) (qa_e rfl h) (Or.inl rfl) rfl rfl (by decide) rfl (fun r hc => mb_163_99 hM es hc)
    obtain ⟨lv, M, h, hM, es⟩ : ∃ lv M, q4_run f 169 40 lv [.int ((if (ma_163_99 a1 m1) = (0 : Int32) then (-1 : Int32) else (-2 : Int32))), .ref 99] M 0 0 = some r ∧ qa_O M ∧ qa_s M = m1 := by
      by_cases c3 : (ma_163_99 a1 m1) = (0 : Int32)
      · replace h := qa_ict (q := 39) (qa_e rfl h) rfl (qa_T_eq c3)
        replace h := qa_push (z := (-1 : Int32)) (q := 40) (qa_e rfl h) rfl (by decide)
        exact ⟨lv, M, (qa_hi1 c3 h), hM, es⟩
      · replace h := qa_icf (q := 34) (qa_e rfl h) rfl (qa_F_eq c3)
        replace h := qa_push (z := (-2 : Int32)) (q := 36) (qa_e rfl h) rfl (by decide)
        replace h := qa_goto (q := 40) (qa_e rfl h) rfl
        exact ⟨lv, M, (qa_hi0 c3 h), hM, es⟩
    obtain ⟨r4, er4⟩ : ∃ x, x = (ma_152_99 (if (ma_163_99 a1 m1) = (0 : Int32) then (-1 : Int32) else (-2 : Int32)) m1) := ⟨_, rfl⟩
    obtain ⟨M, h, hM, es⟩ := qa_c1 (y := 152) (as := [.ref 99, .int ((if (ma_163_99 a1 m1) = (0 : Int32) then (-1 : Int32) else (-2 : Int32)))]) (rest := []) (i := .invokevirtual 152) (q := 43) (qa_e rfl h) (Or.inl rfl) rfl rfl (by decide) rfl (fun r hc => mb_152_99 hM es hc)
    rw [← er4] at h es
    have er := qa_ri (qa_e rfl h)
    subst er
    have e0 : ma_169_99 a1 a2 σ = (r4.1, r4.2) := by exact Eq.trans (qa_ie em1) (Eq.trans (if_pos c2) (Eq.trans (qa_ie er4) (rfl)))
    rw [e0]
    exact ⟨rfl, hM, es⟩
  · replace h := qa_icf (q := 13) (qa_e rfl h) rfl (qa_F_eq c2)
    replace h := qa_iload (n := 2) (q := 14) (qa_e rfl h) rfl g2
    replace h := qa_i2l (q := 15) (qa_e rfl h) rfl
    replace h := qa_lpush (z := (0 : Int64)) (q := 16) (qa_e rfl h) rfl (by decide)
    replace h := qa_lpush (z := (6 : Int64)) (q := 19) (qa_e rfl h) rfl (by decide)
    obtain ⟨M, h, hM, es⟩ := qa_c1 (y := 158) (as := [.long ((a2).toInt64), .long ((0 : Int64)), .long ((6 : Int64))]) (rest := []) (i := .invokestatic 158) (q := 22) (qa_e rfl h) (Or.inr rfl) rfl rfl (by decide) rfl (fun r hc => mb_158 hM es hc)
    by_cases c5 : (ma_158 (a2).toInt64 (0 : Int64) (6 : Int64)) = (0 : Int32)
    · replace h := qa_icf (q := 25) (qa_e rfl h) rfl (qa_F_ne c5)
      replace h := qa_aload (n := 0) (q := 26) (qa_e rfl h) rfl g0
      replace h := qa_aload (n := 0) (q := 27) (qa_e rfl h) rfl g0
      replace h := qa_iload (n := 1) (q := 28) (qa_e rfl h) rfl g1
      obtain ⟨M, h, hM, es⟩ := qa_c1 (y := 163) (as := [.ref 99, .int (a1)]) (rest := [.ref 99]) (i := .invokevirtual 163) (q := 31) (qa_e rfl h) (Or.inl rfl) rfl rfl (by decide) rfl (fun r hc => mb_163_99 hM es hc)
      obtain ⟨lv, M, h, hM, es⟩ : ∃ lv M, q4_run f 169 40 lv [.int ((if (ma_163_99 a1 m1) = (0 : Int32) then (-1 : Int32) else (-2 : Int32))), .ref 99] M 0 0 = some r ∧ qa_O M ∧ qa_s M = m1 := by
        by_cases c6 : (ma_163_99 a1 m1) = (0 : Int32)
        · replace h := qa_ict (q := 39) (qa_e rfl h) rfl (qa_T_eq c6)
          replace h := qa_push (z := (-1 : Int32)) (q := 40) (qa_e rfl h) rfl (by decide)
          exact ⟨lv, M, (qa_hi1 c6 h), hM, es⟩
        · replace h := qa_icf (q := 34) (qa_e rfl h) rfl (qa_F_eq c6)
          replace h := qa_push (z := (-2 : Int32)) (q := 36) (qa_e rfl h) rfl (by decide)
          replace h := qa_goto (q := 40) (qa_e rfl h) rfl
          exact ⟨lv, M, (qa_hi0 c6 h), hM, es⟩
      obtain ⟨r7, er7⟩ : ∃ x, x = (ma_152_99 (if (ma_163_99 a1 m1) = (0 : Int32) then (-1 : Int32) else (-2 : Int32)) m1) := ⟨_, rfl⟩
      obtain ⟨M, h, hM, es⟩ := qa_c1 (y := 152) (as := [.ref 99, .int ((if (ma_163_99 a1 m1) = (0 : Int32) then (-1 : Int32) else (-2 : Int32)))]) (rest := []) (i := .invokevirtual 152) (q := 43) (qa_e rfl h) (Or.inl rfl) rfl rfl (by decide) rfl (fun r hc => mb_152_99 hM es hc)
      rw [← er7] at h es
      have er := qa_ri (qa_e rfl h)
      subst er
      have e0 : ma_169_99 a1 a2 σ = (r7.1, r7.2) := by exact Eq.trans (qa_ie em1) (Eq.trans (if_neg c2) (Eq.trans (if_pos c5) (Eq.trans (qa_ie er7) (rfl))))
      rw [e0]
      exact ⟨rfl, hM, es⟩
    · replace h := qa_ict (q := 44) (qa_e rfl h) rfl (qa_T_ne c5)
      replace h := qa_iload (n := 2) (q := 45) (qa_e rfl h) rfl g2
      obtain ⟨lv, M, h, hM, es⟩ : ∃ lv M, q4_run f 169 98 lv [.int ((if a2 = (0 : Int32) then (m1 100 a1.toNatClampNeg) else (if a2 = (1 : Int32) then (m1 101 a1.toNatClampNeg) else (if a2 = (6 : Int32) then (m1 103 a1.toNatClampNeg) else (m1 102 ((((4 : Int32) * a1) + a2) - (2 : Int32)).toNatClampNeg)))))] M 0 0 = some r ∧ qa_O M ∧ qa_s M = m1 := by
        by_cases c8 : a2 = (0 : Int32)
        · replace h := qa_icf (q := 48) (qa_e rfl h) rfl (qa_F_ne c8)
          replace h := qa_aload (n := 0) (q := 49) (qa_e rfl h) rfl g0
          replace h := qa_gr (b := 100) (j := 1) (q := 52) (qa_e rfl h) rfl hM rfl (by decide)
          replace h := qa_iload (n := 1) (q := 53) (qa_e rfl h) rfl g1
          replace h := qa_iaload (jn := a1.toNatClampNeg) (q := 54) (qa_e rfl h) rfl hM es rfl
          replace h := qa_goto (q := 98) (qa_e rfl h) rfl
          exact ⟨lv, M, (qa_hi1 c8 h), hM, es⟩
        · replace h := qa_ict (q := 57) (qa_e rfl h) rfl (qa_T_ne c8)
          replace h := qa_iload (n := 2) (q := 58) (qa_e rfl h) rfl g2
          replace h := qa_push (z := (1 : Int32)) (q := 59) (qa_e rfl h) rfl (by decide)
          obtain ⟨lv, M, h, hM, es⟩ : ∃ lv M, q4_run f 169 98 lv [.int ((if a2 = (1 : Int32) then (m1 101 a1.toNatClampNeg) else (if a2 = (6 : Int32) then (m1 103 a1.toNatClampNeg) else (m1 102 ((((4 : Int32) * a1) + a2) - (2 : Int32)).toNatClampNeg))))] M 0 0 = some r ∧ qa_O M ∧ qa_s M = m1 := by
            by_cases c9 : a2 = (1 : Int32)
            · replace h := qa_iff (q := 62) (qa_e rfl h) rfl (qa_F_ne c9)
              replace h := qa_aload (n := 0) (q := 63) (qa_e rfl h) rfl g0
              replace h := qa_gr (b := 101) (j := 2) (q := 66) (qa_e rfl h) rfl hM rfl (by decide)
              replace h := qa_iload (n := 1) (q := 67) (qa_e rfl h) rfl g1
              replace h := qa_iaload (jn := a1.toNatClampNeg) (q := 68) (qa_e rfl h) rfl hM es rfl
              replace h := qa_goto (q := 98) (qa_e rfl h) rfl
              exact ⟨lv, M, (qa_hi1 c9 h), hM, es⟩
            · replace h := qa_ift (q := 71) (qa_e rfl h) rfl (qa_T_ne c9)
              replace h := qa_iload (n := 2) (q := 72) (qa_e rfl h) rfl g2
              replace h := qa_push (z := (6 : Int32)) (q := 74) (qa_e rfl h) rfl (by decide)
              obtain ⟨lv, M, h, hM, es⟩ : ∃ lv M, q4_run f 169 98 lv [.int ((if a2 = (6 : Int32) then (m1 103 a1.toNatClampNeg) else (m1 102 ((((4 : Int32) * a1) + a2) - (2 : Int32)).toNatClampNeg)))] M 0 0 = some r ∧ qa_O M ∧ qa_s M = m1 := by
                by_cases c10 : a2 = (6 : Int32)
                · replace h := qa_iff (q := 77) (qa_e rfl h) rfl (qa_F_ne c10)
                  replace h := qa_aload (n := 0) (q := 78) (qa_e rfl h) rfl g0
                  replace h := qa_gr (b := 103) (j := 4) (q := 81) (qa_e rfl h) rfl hM rfl (by decide)
                  replace h := qa_iload (n := 1) (q := 82) (qa_e rfl h) rfl g1
                  replace h := qa_iaload (jn := a1.toNatClampNeg) (q := 83) (qa_e rfl h) rfl hM es rfl
                  replace h := qa_goto (q := 98) (qa_e rfl h) rfl
                  exact ⟨lv, M, (qa_hi1 c10 h), hM, es⟩
                · replace h := qa_ift (q := 86) (qa_e rfl h) rfl (qa_T_ne c10)
                  replace h := qa_aload (n := 0) (q := 87) (qa_e rfl h) rfl g0
                  replace h := qa_gr (b := 102) (j := 3) (q := 90) (qa_e rfl h) rfl hM rfl (by decide)
                  replace h := qa_push (z := (4 : Int32)) (q := 91) (qa_e rfl h) rfl (by decide)
                  replace h := qa_iload (n := 1) (q := 92) (qa_e rfl h) rfl g1
                  replace h := qa_imul (q := 93) (qa_e rfl h) rfl
                  replace h := qa_iload (n := 2) (q := 94) (qa_e rfl h) rfl g2
                  replace h := qa_iadd (q := 95) (qa_e rfl h) rfl
                  replace h := qa_push (z := (2 : Int32)) (q := 96) (qa_e rfl h) rfl (by decide)
                  replace h := qa_isub (q := 97) (qa_e rfl h) rfl
                  replace h := qa_iaload (jn := ((((4 : Int32) * a1) + a2) - (2 : Int32)).toNatClampNeg) (q := 98) (qa_e rfl h) rfl hM es rfl
                  exact ⟨lv, M, (qa_hi0 c10 h), hM, es⟩
              exact ⟨lv, M, (qa_hi0 c9 h), hM, es⟩
          exact ⟨lv, M, (qa_hi0 c8 h), hM, es⟩
      have er := qa_ri (qa_e rfl h)
      subst er
      have e0 : ma_169_99 a1 a2 σ = ((if a2 = (0 : Int32) then (m1 100 a1.toNatClampNeg) else (if a2 = (1 : Int32) then (m1 101 a1.toNatClampNeg) else (if a2 = (6 : Int32) then (m1 103 a1.toNatClampNeg) else (m1 102 ((((4 : Int32) * a1) + a2) - (2 : Int32)).toNatClampNeg)))), m1) := by exact Eq.trans (qa_ie em1) (Eq.trans (if_neg c2) (Eq.trans (if_neg c5) (rfl)))
      rw [e0]
      exact ⟨rfl, hM, es⟩
/-- BuriedBySevensModel, isTaster, (I)Z -/
noncomputable def ma_171_99 (a1 : Int32) (σ : qa_S) : Int32 :=
  (ma_158 (a1).toInt64 (0 : Int64) (((σ 99 5) - (1 : Int32))).toInt64)
theorem mb_171_99 {f : Nat} {M : q4_M} {r : Option Value × q4_M} {σ : qa_S} {a1 : Int32} (hM : qa_O M) (es : qa_s M = σ) (h : q4_run f 171 0 (lv_args 0 [.ref 99, .int (a1)]) [] M 0 0 = some r) : r.1 = some (.int ((ma_171_99 a1 σ))) ∧ qa_O r.2 ∧ qa_s r.2 = σ := by
  obtain ⟨lv, el⟩ : ∃ l, l = lv_args 0 [.ref 99, .int (a1)] := ⟨_, rfl⟩
  have g0 : q4_get lv 0 = some (.ref 99) := by rw [el]; rfl
  have g1 : q4_get lv 1 = some (.int (a1)) := by rw [el]; rfl
  rw [← el] at h
  clear el
  replace h := qa_iload (n := 1) (q := 1) (qa_e rfl h) rfl g1
  replace h := qa_i2l (q := 2) (qa_e rfl h) rfl
  replace h := qa_lpush (z := (0 : Int64)) (q := 3) (qa_e rfl h) rfl (by decide)
  replace h := qa_aload (n := 0) (q := 4) (qa_e rfl h) rfl g0
  replace h := qa_gi (j := 5) (q := 7) (qa_e rfl h) rfl hM es rfl (by decide)
  replace h := qa_push (z := (1 : Int32)) (q := 8) (qa_e rfl h) rfl (by decide)
  replace h := qa_isub (q := 9) (qa_e rfl h) rfl
  replace h := qa_i2l (q := 10) (qa_e rfl h) rfl
  obtain ⟨M, h, hM, es⟩ := qa_c1 (y := 158) (as := [.long ((a1).toInt64), .long ((0 : Int64)), .long ((((σ 99 5) - (1 : Int32))).toInt64)]) (rest := []) (i := .invokestatic 158) (q := 13) (qa_e rfl h) (Or.inr rfl) rfl rfl (by decide) rfl (fun r hc => mb_158 hM es hc)
  have er := qa_ri (qa_e rfl h)
  subst er
  have e0 : ma_171_99 a1 σ = (ma_158 (a1).toInt64 (0 : Int64) (((σ 99 5) - (1 : Int32))).toInt64) := by exact rfl
  rw [e0]
  exact ⟨rfl, hM, es⟩
/-- BuriedBySevensModel, taster, (II)I -/
noncomputable def ma_170_99 (a1 : Int32) (a2 : Int32) (σ : qa_S) : Int32 × qa_S :=
  qa_in (qa_u σ 99 9 (0 : Int32)) fun m1 =>
  if (ma_171_99 a1 m1) = (0 : Int32) then
    qa_in ((ma_152_99 (if (ma_171_99 a1 m1) = (0 : Int32) then (-1 : Int32) else (-2 : Int32)) m1)) fun r4 =>
    (r4.1, r4.2)
  else
    if (ma_158 (a2).toInt64 (0 : Int64) (2 : Int64)) = (0 : Int32) then
      qa_in ((ma_152_99 (if (ma_171_99 a1 m1) = (0 : Int32) then (-1 : Int32) else (-2 : Int32)) m1)) fun r7 =>
      (r7.1, r7.2)
    else
      ((if a2 = (0 : Int32) then (m1 104 a1.toNatClampNeg) else (if a2 = (1 : Int32) then (m1 105 a1.toNatClampNeg) else (m1 106 a1.toNatClampNeg))), m1)
theorem mb_170_99 {f : Nat} {M : q4_M} {r : Option Value × q4_M} {σ : qa_S} {a1 : Int32} {a2 : Int32} (hM : qa_O M) (es : qa_s M = σ) (h : q4_run f 170 0 (lv_args 0 [.ref 99, .int (a1), .int (a2)]) [] M 0 0 = some r) : r.1 = some (.int ((ma_170_99 a1 a2 σ).1)) ∧ qa_O r.2 ∧ qa_s r.2 = (ma_170_99 a1 a2 σ).2 := by
  obtain ⟨lv, el⟩ : ∃ l, l = lv_args 0 [.ref 99, .int (a1), .int (a2)] := ⟨_, rfl⟩
  have g0 : q4_get lv 0 = some (.ref 99) := by rw [el]; rfl
  have g1 : q4_get lv 1 = some (.int (a1)) := by rw [el]; rfl
  have g2 : q4_get lv 2 = some (.int (a2)) := by rw [el]; rfl
  rw [← el] at h
  clear el
  replace h := qa_aload (n := 0) (q := 1) (qa_e rfl h) rfl g0
  replace h := qa_push (z := (0 : Int32)) (q := 2) (qa_e rfl h) rfl (by decide)
  obtain ⟨m1, em1⟩ : ∃ x, x = qa_u σ 99 9 (0 : Int32) := ⟨_, rfl⟩
  obtain ⟨M, h, hM, es⟩ := qa_pf (j := 9) (q := 5) (qa_e rfl h) rfl hM es rfl (by decide)
  rw [← em1] at es
  replace h := qa_aload (n := 0) (q := 6) (qa_e rfl h) rfl g0
  replace h := qa_iload (n := 1) (q := 7) (qa_e rfl h) rfl g1
  obtain ⟨M, h, hM, es⟩ := qa_c1 (y := 171) (as := [.ref 99, .int (a1)]) (rest := []) (i := .invokevirtual 171) (q := 10) (qa_e rfl h) (Or.inl rfl) rfl rfl (by decide) rfl (fun r hc => mb_171_99 hM es hc)
  by_cases c2 : (ma_171_99 a1 m1) = (0 : Int32)
  · replace h := qa_ict (q := 25) (qa_e rfl h) rfl (qa_T_eq c2)
    replace h := qa_aload (n := 0) (q := 26) (qa_e rfl h) rfl g0
    replace h := qa_aload (n := 0) (q := 27) (qa_e rfl h) rfl g0
    replace h := qa_iload (n := 1) (q := 28) (qa_e rfl h) rfl g1
    obtain ⟨M, h, hM, es⟩ := qa_c1 (y := 171) (as := [.ref 99, .int (a1)]) (rest := [.ref 99]) (i := .invokevirtual 171) (q := 31) (qa_e rfl h) (Or.inl rfl) rfl rfl (by decide) rfl (fun r hc => mb_171_99 hM es hc)
    obtain ⟨lv, M, h, hM, es⟩ : ∃ lv M, q4_run f 170 40 lv [.int ((if (ma_171_99 a1 m1) = (0 : Int32) then (-1 : Int32) else (-2 : Int32))), .ref 99] M 0 0 = some r ∧ qa_O M ∧ qa_s M = m1 := by
      by_cases c3 : (ma_171_99 a1 m1) = (0 : Int32)
      · replace h := qa_ict (q := 39) (qa_e rfl h) rfl (qa_T_eq c3)
        replace h := qa_push (z := (-1 : Int32)) (q := 40) (qa_e rfl h) rfl (by decide)
        exact ⟨lv, M, (qa_hi1 c3 h), hM, es⟩
      · replace h := qa_icf (q := 34) (qa_e rfl h) rfl (qa_F_eq c3)
        replace h := qa_push (z := (-2 : Int32)) (q := 36) (qa_e rfl h) rfl (by decide)
        replace h := qa_goto (q := 40) (qa_e rfl h) rfl
        exact ⟨lv, M, (qa_hi0 c3 h), hM, es⟩
    obtain ⟨r4, er4⟩ : ∃ x, x = (ma_152_99 (if (ma_171_99 a1 m1) = (0 : Int32) then (-1 : Int32) else (-2 : Int32)) m1) := ⟨_, rfl⟩
    obtain ⟨M, h, hM, es⟩ := qa_c1 (y := 152) (as := [.ref 99, .int ((if (ma_171_99 a1 m1) = (0 : Int32) then (-1 : Int32) else (-2 : Int32)))]) (rest := []) (i := .invokevirtual 152) (q := 43) (qa_e rfl h) (Or.inl rfl) rfl rfl (by decide) rfl (fun r hc => mb_152_99 hM es hc)
    rw [← er4] at h es
    have er := qa_ri (qa_e rfl h)
    subst er
    have e0 : ma_170_99 a1 a2 σ = (r4.1, r4.2) := by exact Eq.trans (qa_ie em1) (Eq.trans (if_pos c2) (Eq.trans (qa_ie er4) (rfl)))
    rw [e0]
    exact ⟨rfl, hM, es⟩
  · replace h := qa_icf (q := 13) (qa_e rfl h) rfl (qa_F_eq c2)
    replace h := qa_iload (n := 2) (q := 14) (qa_e rfl h) rfl g2
    replace h := qa_i2l (q := 15) (qa_e rfl h) rfl
    replace h := qa_lpush (z := (0 : Int64)) (q := 16) (qa_e rfl h) rfl (by decide)
    replace h := qa_lpush (z := (2 : Int64)) (q := 19) (qa_e rfl h) rfl (by decide)
    obtain ⟨M, h, hM, es⟩ := qa_c1 (y := 158) (as := [.long ((a2).toInt64), .long ((0 : Int64)), .long ((2 : Int64))]) (rest := []) (i := .invokestatic 158) (q := 22) (qa_e rfl h) (Or.inr rfl) rfl rfl (by decide) rfl (fun r hc => mb_158 hM es hc)
    by_cases c5 : (ma_158 (a2).toInt64 (0 : Int64) (2 : Int64)) = (0 : Int32)
    · replace h := qa_icf (q := 25) (qa_e rfl h) rfl (qa_F_ne c5)
      replace h := qa_aload (n := 0) (q := 26) (qa_e rfl h) rfl g0
      replace h := qa_aload (n := 0) (q := 27) (qa_e rfl h) rfl g0
      replace h := qa_iload (n := 1) (q := 28) (qa_e rfl h) rfl g1
      obtain ⟨M, h, hM, es⟩ := qa_c1 (y := 171) (as := [.ref 99, .int (a1)]) (rest := [.ref 99]) (i := .invokevirtual 171) (q := 31) (qa_e rfl h) (Or.inl rfl) rfl rfl (by decide) rfl (fun r hc => mb_171_99 hM es hc)
      obtain ⟨lv, M, h, hM, es⟩ : ∃ lv M, q4_run f 170 40 lv [.int ((if (ma_171_99 a1 m1) = (0 : Int32) then (-1 : Int32) else (-2 : Int32))), .ref 99] M 0 0 = some r ∧ qa_O M ∧ qa_s M = m1 := by
        by_cases c6 : (ma_171_99 a1 m1) = (0 : Int32)
        · replace h := qa_ict (q := 39) (qa_e rfl h) rfl (qa_T_eq c6)
          replace h := qa_push (z := (-1 : Int32)) (q := 40) (qa_e rfl h) rfl (by decide)
          exact ⟨lv, M, (qa_hi1 c6 h), hM, es⟩
        · replace h := qa_icf (q := 34) (qa_e rfl h) rfl (qa_F_eq c6)
          replace h := qa_push (z := (-2 : Int32)) (q := 36) (qa_e rfl h) rfl (by decide)
          replace h := qa_goto (q := 40) (qa_e rfl h) rfl
          exact ⟨lv, M, (qa_hi0 c6 h), hM, es⟩
      obtain ⟨r7, er7⟩ : ∃ x, x = (ma_152_99 (if (ma_171_99 a1 m1) = (0 : Int32) then (-1 : Int32) else (-2 : Int32)) m1) := ⟨_, rfl⟩
      obtain ⟨M, h, hM, es⟩ := qa_c1 (y := 152) (as := [.ref 99, .int ((if (ma_171_99 a1 m1) = (0 : Int32) then (-1 : Int32) else (-2 : Int32)))]) (rest := []) (i := .invokevirtual 152) (q := 43) (qa_e rfl h) (Or.inl rfl) rfl rfl (by decide) rfl (fun r hc => mb_152_99 hM es hc)
      rw [← er7] at h es
      have er := qa_ri (qa_e rfl h)
      subst er
      have e0 : ma_170_99 a1 a2 σ = (r7.1, r7.2) := by exact Eq.trans (qa_ie em1) (Eq.trans (if_neg c2) (Eq.trans (if_pos c5) (Eq.trans (qa_ie er7) (rfl))))
      rw [e0]
      exact ⟨rfl, hM, es⟩
    · replace h := qa_ict (q := 44) (qa_e rfl h) rfl (qa_T_ne c5)
      replace h := qa_iload (n := 2) (q := 45) (qa_e rfl h) rfl g2
      obtain ⟨lv, M, h, hM, es⟩ : ∃ lv M, q4_run f 170 77 lv [.int ((if a2 = (0 : Int32) then (m1 104 a1.toNatClampNeg) else (if a2 = (1 : Int32) then (m1 105 a1.toNatClampNeg) else (m1 106 a1.toNatClampNeg))))] M 0 0 = some r ∧ qa_O M ∧ qa_s M = m1 := by
        by_cases c8 : a2 = (0 : Int32)
        · replace h := qa_icf (q := 48) (qa_e rfl h) rfl (qa_F_ne c8)
          replace h := qa_aload (n := 0) (q := 49) (qa_e rfl h) rfl g0
          replace h := qa_gr (b := 104) (j := 6) (q := 52) (qa_e rfl h) rfl hM rfl (by decide)
          replace h := qa_iload (n := 1) (q := 53) (qa_e rfl h) rfl g1
          replace h := qa_iaload (jn := a1.toNatClampNeg) (q := 54) (qa_e rfl h) rfl hM es rfl
          replace h := qa_goto (q := 77) (qa_e rfl h) rfl
          exact ⟨lv, M, (qa_hi1 c8 h), hM, es⟩
        · replace h := qa_ict (q := 57) (qa_e rfl h) rfl (qa_T_ne c8)
          replace h := qa_iload (n := 2) (q := 58) (qa_e rfl h) rfl g2
          replace h := qa_push (z := (1 : Int32)) (q := 59) (qa_e rfl h) rfl (by decide)
          obtain ⟨lv, M, h, hM, es⟩ : ∃ lv M, q4_run f 170 77 lv [.int ((if a2 = (1 : Int32) then (m1 105 a1.toNatClampNeg) else (m1 106 a1.toNatClampNeg)))] M 0 0 = some r ∧ qa_O M ∧ qa_s M = m1 := by
            by_cases c9 : a2 = (1 : Int32)
            · replace h := qa_iff (q := 62) (qa_e rfl h) rfl (qa_F_ne c9)
              replace h := qa_aload (n := 0) (q := 63) (qa_e rfl h) rfl g0
              replace h := qa_gr (b := 105) (j := 7) (q := 66) (qa_e rfl h) rfl hM rfl (by decide)
              replace h := qa_iload (n := 1) (q := 67) (qa_e rfl h) rfl g1
              replace h := qa_iaload (jn := a1.toNatClampNeg) (q := 68) (qa_e rfl h) rfl hM es rfl
              replace h := qa_goto (q := 77) (qa_e rfl h) rfl
              exact ⟨lv, M, (qa_hi1 c9 h), hM, es⟩
            · replace h := qa_ift (q := 71) (qa_e rfl h) rfl (qa_T_ne c9)
              replace h := qa_aload (n := 0) (q := 72) (qa_e rfl h) rfl g0
              replace h := qa_gr (b := 106) (j := 8) (q := 75) (qa_e rfl h) rfl hM rfl (by decide)
              replace h := qa_iload (n := 1) (q := 76) (qa_e rfl h) rfl g1
              replace h := qa_iaload (jn := a1.toNatClampNeg) (q := 77) (qa_e rfl h) rfl hM es rfl
              exact ⟨lv, M, (qa_hi0 c9 h), hM, es⟩
          exact ⟨lv, M, (qa_hi0 c8 h), hM, es⟩
      have er := qa_ri (qa_e rfl h)
      subst er
      have e0 : ma_170_99 a1 a2 σ = ((if a2 = (0 : Int32) then (m1 104 a1.toNatClampNeg) else (if a2 = (1 : Int32) then (m1 105 a1.toNatClampNeg) else (m1 106 a1.toNatClampNeg))), m1) := by exact Eq.trans (qa_ie em1) (Eq.trans (if_neg c2) (Eq.trans (if_neg c5) (rfl)))
      rw [e0]
      exact ⟨rfl, hM, es⟩
/-- BuriedBySevensModel, comes, (III)I -/
noncomputable def ma_172_99 (N : Nat) (a1 : Int32) (a2 : Int32) (a3 : Int32) (σ : qa_S) : Int32 × qa_S :=
  qa_in (qa_u σ 99 9 (0 : Int32)) fun m1 =>
  if (if (ma_158 (a1).toInt64 (0 : Int64) (5 : Int64)) = (0 : Int32) then (-2 : Int32) else (if a2 < (0 : Int32) then (-4 : Int32) else (if a3 < (0 : Int32) then (-4 : Int32) else (if (9 : Int32) < a2 then (-6 : Int32) else (if (9999 : Int32) < a3 then (-6 : Int32) else (if (m1 99 0) = (7 : Int32) then (-6 : Int32) else (0 : Int32))))))) < (0 : Int32) then
    qa_in ((ma_152_99 (if (ma_158 (a1).toInt64 (0 : Int64) (5 : Int64)) = (0 : Int32) then (-2 : Int32) else (if a2 < (0 : Int32) then (-4 : Int32) else (if a3 < (0 : Int32) then (-4 : Int32) else (if (9 : Int32) < a2 then (-6 : Int32) else (if (9999 : Int32) < a3 then (-6 : Int32) else (if (m1 99 0) = (7 : Int32) then (-6 : Int32) else (0 : Int32))))))) m1)) fun r9 =>
    (r9.1, r9.2)
  else
    qa_in ((ma_162_99 N a1 a2 a3 m1)) fun m10 =>
    qa_in (qa_u m10 99 32 (0 : Int32)) fun m11 =>
    (((m11 99 0) - (1 : Int32)), m11)
theorem mb_172_99 {f N : Nat} (hN : f ≤ N) {M : q4_M} {r : Option Value × q4_M} {σ : qa_S} {a1 : Int32} {a2 : Int32} {a3 : Int32} (hM : qa_O M) (es : qa_s M = σ) (h : q4_run f 172 0 (lv_args 0 [.ref 99, .int (a1), .int (a2), .int (a3)]) [] M 0 0 = some r) : r.1 = some (.int ((ma_172_99 N a1 a2 a3 σ).1)) ∧ qa_O r.2 ∧ qa_s r.2 = (ma_172_99 N a1 a2 a3 σ).2 := by
  obtain ⟨lv, el⟩ : ∃ l, l = lv_args 0 [.ref 99, .int (a1), .int (a2), .int (a3)] := ⟨_, rfl⟩
  have g0 : q4_get lv 0 = some (.ref 99) := by rw [el]; rfl
  have g1 : q4_get lv 1 = some (.int (a1)) := by rw [el]; rfl
  have g2 : q4_get lv 2 = some (.int (a2)) := by rw [el]; rfl
  have g3 : q4_get lv 3 = some (.int (a3)) := by rw [el]; rfl
  rw [← el] at h
  clear el
  replace h := qa_aload (n := 0) (q := 1) (qa_e rfl h) rfl g0
  replace h := qa_push (z := (0 : Int32)) (q := 2) (qa_e rfl h) rfl (by decide)
  obtain ⟨m1, em1⟩ : ∃ x, x = qa_u σ 99 9 (0 : Int32) := ⟨_, rfl⟩
  obtain ⟨M, h, hM, es⟩ := qa_pf (j := 9) (q := 5) (qa_e rfl h) rfl hM es rfl (by decide)
  rw [← em1] at es
  replace h := qa_push (z := (0 : Int32)) (q := 6) (qa_e rfl h) rfl (by decide)
  obtain ⟨lv, h, g, T⟩ := qa_istore (n := 4) (q := 8) (qa_e rfl h) rfl
  replace g0 := T _ _ g0 (by decide) (Or.inr rfl)
  replace g1 := T _ _ g1 (by decide) (Or.inr rfl)
  replace g2 := T _ _ g2 (by decide) (Or.inr rfl)
  replace g3 := T _ _ g3 (by decide) (Or.inr rfl)
  have g4 := g
  clear g T
  replace h := qa_iload (n := 1) (q := 9) (qa_e rfl h) rfl g1
  replace h := qa_i2l (q := 10) (qa_e rfl h) rfl
  replace h := qa_lpush (z := (0 : Int64)) (q := 11) (qa_e rfl h) rfl (by decide)
  replace h := qa_lpush (z := (5 : Int64)) (q := 14) (qa_e rfl h) rfl (by decide)
  obtain ⟨M, h, hM, es⟩ := qa_c1 (y := 158) (as := [.long ((a1).toInt64), .long ((0 : Int64)), .long ((5 : Int64))]) (rest := []) (i := .invokestatic 158) (q := 17) (qa_e rfl h) (Or.inr rfl) rfl rfl (by decide) rfl (fun r hc => mb_158 hM es hc)
  obtain ⟨lv, M, h, hM, es, g0, g1, g2, g3, g4⟩ : ∃ lv M, q4_run f 172 68 lv [] M 0 0 = some r ∧ qa_O M ∧ qa_s M = m1 ∧ q4_get lv 0 = some (.ref 99) ∧ q4_get lv 1 = some (.int (a1)) ∧ q4_get lv 2 = some (.int (a2)) ∧ q4_get lv 3 = some (.int (a3)) ∧ q4_get lv 4 = some (.int ((if (ma_158 (a1).toInt64 (0 : Int64) (5 : Int64)) = (0 : Int32) then (-2 : Int32) else (if a2 < (0 : Int32) then (-4 : Int32) else (if a3 < (0 : Int32) then (-4 : Int32) else (if (9 : Int32) < a2 then (-6 : Int32) else (if (9999 : Int32) < a3 then (-6 : Int32) else (if (m1 99 0) = (7 : Int32) then (-6 : Int32) else (0 : Int32))))))))) := by
    by_cases c2 : (ma_158 (a1).toInt64 (0 : Int64) (5 : Int64)) = (0 : Int32)
    · replace h := qa_icf (q := 20) (qa_e rfl h) rfl (qa_F_ne c2)
      replace h := qa_push (z := (-2 : Int32)) (q := 22) (qa_e rfl h) rfl (by decide)
      obtain ⟨lv, h, g, T⟩ := qa_istore (n := 4) (q := 24) (qa_e rfl h) rfl
      replace g0 := T _ _ g0 (by decide) (Or.inr rfl)
      replace g1 := T _ _ g1 (by decide) (Or.inr rfl)
      replace g2 := T _ _ g2 (by decide) (Or.inr rfl)
      replace g3 := T _ _ g3 (by decide) (Or.inr rfl)
      have g4 := g
      clear g T
      replace h := qa_goto (q := 68) (qa_e rfl h) rfl
      exact ⟨lv, M, h, hM, es, g0, g1, g2, g3, (qa_gi1 c2 g4)⟩
    · replace h := qa_ict (q := 27) (qa_e rfl h) rfl (qa_T_ne c2)
      replace h := qa_iload (n := 2) (q := 28) (qa_e rfl h) rfl g2
      obtain ⟨lv, M, h, hM, es, g0, g1, g2, g3, g4⟩ : ∃ lv M, q4_run f 172 68 lv [] M 0 0 = some r ∧ qa_O M ∧ qa_s M = m1 ∧ q4_get lv 0 = some (.ref 99) ∧ q4_get lv 1 = some (.int (a1)) ∧ q4_get lv 2 = some (.int (a2)) ∧ q4_get lv 3 = some (.int (a3)) ∧ q4_get lv 4 = some (.int ((if a2 < (0 : Int32) then (-4 : Int32) else (if a3 < (0 : Int32) then (-4 : Int32) else (if (9 : Int32) < a2 then (-6 : Int32) else (if (9999 : Int32) < a3 then (-6 : Int32) else (if (m1 99 0) = (7 : Int32) then (-6 : Int32) else (0 : Int32)))))))) := by
        by_cases c3 : a2 < (0 : Int32)
        · replace h := qa_ict (q := 35) (qa_e rfl h) rfl (qa_T_lt c3)
          replace h := qa_push (z := (-4 : Int32)) (q := 37) (qa_e rfl h) rfl (by decide)
          obtain ⟨lv, h, g, T⟩ := qa_istore (n := 4) (q := 39) (qa_e rfl h) rfl
          replace g0 := T _ _ g0 (by decide) (Or.inr rfl)
          replace g1 := T _ _ g1 (by decide) (Or.inr rfl)
          replace g2 := T _ _ g2 (by decide) (Or.inr rfl)
          replace g3 := T _ _ g3 (by decide) (Or.inr rfl)
          have g4 := g
          clear g T
          replace h := qa_goto (q := 68) (qa_e rfl h) rfl
          exact ⟨lv, M, h, hM, es, g0, g1, g2, g3, (qa_gi1 c3 g4)⟩
        · replace h := qa_icf (q := 31) (qa_e rfl h) rfl (qa_F_lt c3)
          replace h := qa_iload (n := 3) (q := 32) (qa_e rfl h) rfl g3
          obtain ⟨lv, M, h, hM, es, g0, g1, g2, g3, g4⟩ : ∃ lv M, q4_run f 172 68 lv [] M 0 0 = some r ∧ qa_O M ∧ qa_s M = m1 ∧ q4_get lv 0 = some (.ref 99) ∧ q4_get lv 1 = some (.int (a1)) ∧ q4_get lv 2 = some (.int (a2)) ∧ q4_get lv 3 = some (.int (a3)) ∧ q4_get lv 4 = some (.int ((if a3 < (0 : Int32) then (-4 : Int32) else (if (9 : Int32) < a2 then (-6 : Int32) else (if (9999 : Int32) < a3 then (-6 : Int32) else (if (m1 99 0) = (7 : Int32) then (-6 : Int32) else (0 : Int32))))))) := by
            by_cases c4 : a3 < (0 : Int32)
            · replace h := qa_icf (q := 35) (qa_e rfl h) rfl (qa_F_ge c4)
              replace h := qa_push (z := (-4 : Int32)) (q := 37) (qa_e rfl h) rfl (by decide)
              obtain ⟨lv, h, g, T⟩ := qa_istore (n := 4) (q := 39) (qa_e rfl h) rfl
              replace g0 := T _ _ g0 (by decide) (Or.inr rfl)
              replace g1 := T _ _ g1 (by decide) (Or.inr rfl)
              replace g2 := T _ _ g2 (by decide) (Or.inr rfl)
              replace g3 := T _ _ g3 (by decide) (Or.inr rfl)
              have g4 := g
              clear g T
              replace h := qa_goto (q := 68) (qa_e rfl h) rfl
              exact ⟨lv, M, h, hM, es, g0, g1, g2, g3, (qa_gi1 c4 g4)⟩
            · replace h := qa_ict (q := 42) (qa_e rfl h) rfl (qa_T_ge c4)
              replace h := qa_iload (n := 2) (q := 43) (qa_e rfl h) rfl g2
              replace h := qa_push (z := (9 : Int32)) (q := 45) (qa_e rfl h) rfl (by decide)
              obtain ⟨lv, M, h, hM, es, g0, g1, g2, g3, g4⟩ : ∃ lv M, q4_run f 172 68 lv [] M 0 0 = some r ∧ qa_O M ∧ qa_s M = m1 ∧ q4_get lv 0 = some (.ref 99) ∧ q4_get lv 1 = some (.int (a1)) ∧ q4_get lv 2 = some (.int (a2)) ∧ q4_get lv 3 = some (.int (a3)) ∧ q4_get lv 4 = some (.int ((if (9 : Int32) < a2 then (-6 : Int32) else (if (9999 : Int32) < a3 then (-6 : Int32) else (if (m1 99 0) = (7 : Int32) then (-6 : Int32) else (0 : Int32)))))) := by
                by_cases c5 : (9 : Int32) < a2
                · replace h := qa_ift (q := 64) (qa_e rfl h) rfl (qa_T_gt c5)
                  replace h := qa_push (z := (-6 : Int32)) (q := 66) (qa_e rfl h) rfl (by decide)
                  obtain ⟨lv, h, g, T⟩ := qa_istore (n := 4) (q := 68) (qa_e rfl h) rfl
                  replace g0 := T _ _ g0 (by decide) (Or.inr rfl)
                  replace g1 := T _ _ g1 (by decide) (Or.inr rfl)
                  replace g2 := T _ _ g2 (by decide) (Or.inr rfl)
                  replace g3 := T _ _ g3 (by decide) (Or.inr rfl)
                  have g4 := g
                  clear g T
                  exact ⟨lv, M, h, hM, es, g0, g1, g2, g3, (qa_gi1 c5 g4)⟩
                · replace h := qa_iff (q := 48) (qa_e rfl h) rfl (qa_F_gt c5)
                  replace h := qa_iload (n := 3) (q := 49) (qa_e rfl h) rfl g3
                  replace h := qa_push (z := (9999 : Int32)) (q := 52) (qa_e rfl h) rfl (by decide)
                  obtain ⟨lv, M, h, hM, es, g0, g1, g2, g3, g4⟩ : ∃ lv M, q4_run f 172 68 lv [] M 0 0 = some r ∧ qa_O M ∧ qa_s M = m1 ∧ q4_get lv 0 = some (.ref 99) ∧ q4_get lv 1 = some (.int (a1)) ∧ q4_get lv 2 = some (.int (a2)) ∧ q4_get lv 3 = some (.int (a3)) ∧ q4_get lv 4 = some (.int ((if (9999 : Int32) < a3 then (-6 : Int32) else (if (m1 99 0) = (7 : Int32) then (-6 : Int32) else (0 : Int32))))) := by
                    by_cases c6 : (9999 : Int32) < a3
                    · replace h := qa_ift (q := 64) (qa_e rfl h) rfl (qa_T_gt c6)
                      replace h := qa_push (z := (-6 : Int32)) (q := 66) (qa_e rfl h) rfl (by decide)
                      obtain ⟨lv, h, g, T⟩ := qa_istore (n := 4) (q := 68) (qa_e rfl h) rfl
                      replace g0 := T _ _ g0 (by decide) (Or.inr rfl)
                      replace g1 := T _ _ g1 (by decide) (Or.inr rfl)
                      replace g2 := T _ _ g2 (by decide) (Or.inr rfl)
                      replace g3 := T _ _ g3 (by decide) (Or.inr rfl)
                      have g4 := g
                      clear g T
                      exact ⟨lv, M, h, hM, es, g0, g1, g2, g3, (qa_gi1 c6 g4)⟩
                    · replace h := qa_iff (q := 55) (qa_e rfl h) rfl (qa_F_gt c6)
                      replace h := qa_aload (n := 0) (q := 56) (qa_e rfl h) rfl g0
                      replace h := qa_gi (j := 0) (q := 59) (qa_e rfl h) rfl hM es rfl (by decide)
                      replace h := qa_push (z := (7 : Int32)) (q := 61) (qa_e rfl h) rfl (by decide)
                      obtain ⟨lv, M, h, hM, es, g0, g1, g2, g3, g4⟩ : ∃ lv M, q4_run f 172 68 lv [] M 0 0 = some r ∧ qa_O M ∧ qa_s M = m1 ∧ q4_get lv 0 = some (.ref 99) ∧ q4_get lv 1 = some (.int (a1)) ∧ q4_get lv 2 = some (.int (a2)) ∧ q4_get lv 3 = some (.int (a3)) ∧ q4_get lv 4 = some (.int ((if (m1 99 0) = (7 : Int32) then (-6 : Int32) else (0 : Int32)))) := by
                        by_cases c7 : (m1 99 0) = (7 : Int32)
                        · replace h := qa_iff (q := 64) (qa_e rfl h) rfl (qa_F_ne c7)
                          replace h := qa_push (z := (-6 : Int32)) (q := 66) (qa_e rfl h) rfl (by decide)
                          obtain ⟨lv, h, g, T⟩ := qa_istore (n := 4) (q := 68) (qa_e rfl h) rfl
                          replace g0 := T _ _ g0 (by decide) (Or.inr rfl)
                          replace g1 := T _ _ g1 (by decide) (Or.inr rfl)
                          replace g2 := T _ _ g2 (by decide) (Or.inr rfl)
                          replace g3 := T _ _ g3 (by decide) (Or.inr rfl)
                          have g4 := g
                          clear g T
                          exact ⟨lv, M, h, hM, es, g0, g1, g2, g3, (qa_gi1 c7 g4)⟩
                        · replace h := qa_ift (q := 68) (qa_e rfl h) rfl (qa_T_ne c7)
                          exact ⟨lv, M, h, hM, es, g0, g1, g2, g3, (qa_gi0 c7 g4)⟩
                      exact ⟨lv, M, h, hM, es, g0, g1, g2, g3, (qa_gi0 c6 g4)⟩
                  exact ⟨lv, M, h, hM, es, g0, g1, g2, g3, (qa_gi0 c5 g4)⟩
              exact ⟨lv, M, h, hM, es, g0, g1, g2, g3, (qa_gi0 c4 g4)⟩
          exact ⟨lv, M, h, hM, es, g0, g1, g2, g3, (qa_gi0 c3 g4)⟩
      exact ⟨lv, M, h, hM, es, g0, g1, g2, g3, (qa_gi0 c2 g4)⟩
  replace h := qa_iload (n := 4) (q := 70) (qa_e rfl h) rfl g4
  by_cases c8 : (if (ma_158 (a1).toInt64 (0 : Int64) (5 : Int64)) = (0 : Int32) then (-2 : Int32) else (if a2 < (0 : Int32) then (-4 : Int32) else (if a3 < (0 : Int32) then (-4 : Int32) else (if (9 : Int32) < a2 then (-6 : Int32) else (if (9999 : Int32) < a3 then (-6 : Int32) else (if (m1 99 0) = (7 : Int32) then (-6 : Int32) else (0 : Int32))))))) < (0 : Int32)
  · replace h := qa_icf (q := 73) (qa_e rfl h) rfl (qa_F_ge c8)
    replace h := qa_aload (n := 0) (q := 74) (qa_e rfl h) rfl g0
    replace h := qa_iload (n := 4) (q := 76) (qa_e rfl h) rfl g4
    obtain ⟨r9, er9⟩ : ∃ x, x = (ma_152_99 (if (ma_158 (a1).toInt64 (0 : Int64) (5 : Int64)) = (0 : Int32) then (-2 : Int32) else (if a2 < (0 : Int32) then (-4 : Int32) else (if a3 < (0 : Int32) then (-4 : Int32) else (if (9 : Int32) < a2 then (-6 : Int32) else (if (9999 : Int32) < a3 then (-6 : Int32) else (if (m1 99 0) = (7 : Int32) then (-6 : Int32) else (0 : Int32))))))) m1) := ⟨_, rfl⟩
    obtain ⟨M, h, hM, es⟩ := qa_c1 (y := 152) (as := [.ref 99, .int ((if (ma_158 (a1).toInt64 (0 : Int64) (5 : Int64)) = (0 : Int32) then (-2 : Int32) else (if a2 < (0 : Int32) then (-4 : Int32) else (if a3 < (0 : Int32) then (-4 : Int32) else (if (9 : Int32) < a2 then (-6 : Int32) else (if (9999 : Int32) < a3 then (-6 : Int32) else (if (m1 99 0) = (7 : Int32) then (-6 : Int32) else (0 : Int32))))))))]) (rest := []) (i := .invokevirtual 152) (q := 79) (qa_e rfl h) (Or.inl rfl) rfl rfl (by decide) rfl (fun r hc => mb_152_99 hM es hc)
    rw [← er9] at h es
    have er := qa_ri (qa_e rfl h)
    subst er
    have e0 : ma_172_99 N a1 a2 a3 σ = (r9.1, r9.2) := by exact Eq.trans (qa_ie em1) (Eq.trans (if_pos c8) (Eq.trans (qa_ie er9) (rfl)))
    rw [e0]
    exact ⟨rfl, hM, es⟩
  · replace h := qa_ict (q := 80) (qa_e rfl h) rfl (qa_T_ge c8)
    replace h := qa_aload (n := 0) (q := 81) (qa_e rfl h) rfl g0
    replace h := qa_iload (n := 1) (q := 82) (qa_e rfl h) rfl g1
    replace h := qa_iload (n := 2) (q := 83) (qa_e rfl h) rfl g2
    replace h := qa_iload (n := 3) (q := 84) (qa_e rfl h) rfl g3
    obtain ⟨m10, em10⟩ : ∃ x, x = (ma_162_99 N a1 a2 a3 m1) := ⟨_, rfl⟩
    obtain ⟨M, h, hM, es⟩ := qa_c0 (y := 162) (as := [.ref 99, .int (a1), .int (a2), .int (a3)]) (rest := []) (i := .invokevirtual 162) (q := 87) (qa_e rfl h) (Or.inl rfl) rfl rfl (by decide) rfl (fun r hc => mb_162_99 hN hM es hc)
    rw [← em10] at es
    replace h := qa_aload (n := 0) (q := 88) (qa_e rfl h) rfl g0
    replace h := qa_push (z := (0 : Int32)) (q := 89) (qa_e rfl h) rfl (by decide)
    obtain ⟨m11, em11⟩ : ∃ x, x = qa_u m10 99 32 (0 : Int32) := ⟨_, rfl⟩
    obtain ⟨M, h, hM, es⟩ := qa_pf (j := 32) (q := 92) (qa_e rfl h) rfl hM es rfl (by decide)
    rw [← em11] at es
    replace h := qa_aload (n := 0) (q := 93) (qa_e rfl h) rfl g0
    replace h := qa_gi (j := 0) (q := 96) (qa_e rfl h) rfl hM es rfl (by decide)
    replace h := qa_push (z := (1 : Int32)) (q := 97) (qa_e rfl h) rfl (by decide)
    replace h := qa_isub (q := 98) (qa_e rfl h) rfl
    have er := qa_ri (qa_e rfl h)
    subst er
    have e0 : ma_172_99 N a1 a2 a3 σ = (((m11 99 0) - (1 : Int32)), m11) := by exact Eq.trans (qa_ie em1) (Eq.trans (if_neg c8) (Eq.trans (qa_ie em10) (Eq.trans (qa_ie em11) (rfl))))
    rw [e0]
    exact ⟨rfl, hM, es⟩
/-- BuriedBySevensModel, joins, (III)I -/
noncomputable def ma_173_99 (a1 : Int32) (a2 : Int32) (a3 : Int32) (σ : qa_S) : Int32 × qa_S :=
  qa_in (qa_u σ 99 9 (0 : Int32)) fun m1 =>
  if (if a1 < (1 : Int32) then (-4 : Int32) else (if a2 < (0 : Int32) then (-4 : Int32) else (if a3 < (0 : Int32) then (-4 : Int32) else (if (15 : Int32) < a1 then (-6 : Int32) else (if (9 : Int32) < a2 then (-6 : Int32) else (if (9 : Int32) < a3 then (-6 : Int32) else (if (m1 99 5) = (6 : Int32) then (-6 : Int32) else (0 : Int32)))))))) < (0 : Int32) then
    qa_in ((ma_152_99 (if a1 < (1 : Int32) then (-4 : Int32) else (if a2 < (0 : Int32) then (-4 : Int32) else (if a3 < (0 : Int32) then (-4 : Int32) else (if (15 : Int32) < a1 then (-6 : Int32) else (if (9 : Int32) < a2 then (-6 : Int32) else (if (9 : Int32) < a3 then (-6 : Int32) else (if (m1 99 5) = (6 : Int32) then (-6 : Int32) else (0 : Int32)))))))) m1)) fun r10 =>
    (r10.1, r10.2)
  else
    qa_in ((ma_164_99 a1 a2 a3 m1)) fun m11 =>
    qa_in (qa_u m11 99 32 (0 : Int32)) fun m12 =>
    (((m12 99 5) - (1 : Int32)), m12)
theorem mb_173_99 {f : Nat} {M : q4_M} {r : Option Value × q4_M} {σ : qa_S} {a1 : Int32} {a2 : Int32} {a3 : Int32} (hM : qa_O M) (es : qa_s M = σ) (h : q4_run f 173 0 (lv_args 0 [.ref 99, .int (a1), .int (a2), .int (a3)]) [] M 0 0 = some r) : r.1 = some (.int ((ma_173_99 a1 a2 a3 σ).1)) ∧ qa_O r.2 ∧ qa_s r.2 = (ma_173_99 a1 a2 a3 σ).2 := by
  obtain ⟨lv, el⟩ : ∃ l, l = lv_args 0 [.ref 99, .int (a1), .int (a2), .int (a3)] := ⟨_, rfl⟩
  have g0 : q4_get lv 0 = some (.ref 99) := by rw [el]; rfl
  have g1 : q4_get lv 1 = some (.int (a1)) := by rw [el]; rfl
  have g2 : q4_get lv 2 = some (.int (a2)) := by rw [el]; rfl
  have g3 : q4_get lv 3 = some (.int (a3)) := by rw [el]; rfl
  rw [← el] at h
  clear el
  replace h := qa_aload (n := 0) (q := 1) (qa_e rfl h) rfl g0
  replace h := qa_push (z := (0 : Int32)) (q := 2) (qa_e rfl h) rfl (by decide)
  obtain ⟨m1, em1⟩ : ∃ x, x = qa_u σ 99 9 (0 : Int32) := ⟨_, rfl⟩
  obtain ⟨M, h, hM, es⟩ := qa_pf (j := 9) (q := 5) (qa_e rfl h) rfl hM es rfl (by decide)
  rw [← em1] at es
  replace h := qa_push (z := (0 : Int32)) (q := 6) (qa_e rfl h) rfl (by decide)
  obtain ⟨lv, h, g, T⟩ := qa_istore (n := 4) (q := 8) (qa_e rfl h) rfl
  replace g0 := T _ _ g0 (by decide) (Or.inr rfl)
  replace g1 := T _ _ g1 (by decide) (Or.inr rfl)
  replace g2 := T _ _ g2 (by decide) (Or.inr rfl)
  replace g3 := T _ _ g3 (by decide) (Or.inr rfl)
  have g4 := g
  clear g T
  replace h := qa_iload (n := 1) (q := 9) (qa_e rfl h) rfl g1
  replace h := qa_push (z := (1 : Int32)) (q := 10) (qa_e rfl h) rfl (by decide)
  obtain ⟨lv, M, h, hM, es, g0, g1, g2, g3, g4⟩ : ∃ lv M, q4_run f 173 59 lv [] M 0 0 = some r ∧ qa_O M ∧ qa_s M = m1 ∧ q4_get lv 0 = some (.ref 99) ∧ q4_get lv 1 = some (.int (a1)) ∧ q4_get lv 2 = some (.int (a2)) ∧ q4_get lv 3 = some (.int (a3)) ∧ q4_get lv 4 = some (.int ((if a1 < (1 : Int32) then (-4 : Int32) else (if a2 < (0 : Int32) then (-4 : Int32) else (if a3 < (0 : Int32) then (-4 : Int32) else (if (15 : Int32) < a1 then (-6 : Int32) else (if (9 : Int32) < a2 then (-6 : Int32) else (if (9 : Int32) < a3 then (-6 : Int32) else (if (m1 99 5) = (6 : Int32) then (-6 : Int32) else (0 : Int32)))))))))) := by
    by_cases c2 : a1 < (1 : Int32)
    · replace h := qa_ift (q := 21) (qa_e rfl h) rfl (qa_T_lt c2)
      replace h := qa_push (z := (-4 : Int32)) (q := 23) (qa_e rfl h) rfl (by decide)
      obtain ⟨lv, h, g, T⟩ := qa_istore (n := 4) (q := 25) (qa_e rfl h) rfl
      replace g0 := T _ _ g0 (by decide) (Or.inr rfl)
      replace g1 := T _ _ g1 (by decide) (Or.inr rfl)
      replace g2 := T _ _ g2 (by decide) (Or.inr rfl)
      replace g3 := T _ _ g3 (by decide) (Or.inr rfl)
      have g4 := g
      clear g T
      replace h := qa_goto (q := 59) (qa_e rfl h) rfl
      exact ⟨lv, M, h, hM, es, g0, g1, g2, g3, (qa_gi1 c2 g4)⟩
    · replace h := qa_iff (q := 13) (qa_e rfl h) rfl (qa_F_lt c2)
      replace h := qa_iload (n := 2) (q := 14) (qa_e rfl h) rfl g2
      obtain ⟨lv, M, h, hM, es, g0, g1, g2, g3, g4⟩ : ∃ lv M, q4_run f 173 59 lv [] M 0 0 = some r ∧ qa_O M ∧ qa_s M = m1 ∧ q4_get lv 0 = some (.ref 99) ∧ q4_get lv 1 = some (.int (a1)) ∧ q4_get lv 2 = some (.int (a2)) ∧ q4_get lv 3 = some (.int (a3)) ∧ q4_get lv 4 = some (.int ((if a2 < (0 : Int32) then (-4 : Int32) else (if a3 < (0 : Int32) then (-4 : Int32) else (if (15 : Int32) < a1 then (-6 : Int32) else (if (9 : Int32) < a2 then (-6 : Int32) else (if (9 : Int32) < a3 then (-6 : Int32) else (if (m1 99 5) = (6 : Int32) then (-6 : Int32) else (0 : Int32))))))))) := by
        by_cases c3 : a2 < (0 : Int32)
        · replace h := qa_ict (q := 21) (qa_e rfl h) rfl (qa_T_lt c3)
          replace h := qa_push (z := (-4 : Int32)) (q := 23) (qa_e rfl h) rfl (by decide)
          obtain ⟨lv, h, g, T⟩ := qa_istore (n := 4) (q := 25) (qa_e rfl h) rfl
          replace g0 := T _ _ g0 (by decide) (Or.inr rfl)
          replace g1 := T _ _ g1 (by decide) (Or.inr rfl)
          replace g2 := T _ _ g2 (by decide) (Or.inr rfl)
          replace g3 := T _ _ g3 (by decide) (Or.inr rfl)
          have g4 := g
          clear g T
          replace h := qa_goto (q := 59) (qa_e rfl h) rfl
          exact ⟨lv, M, h, hM, es, g0, g1, g2, g3, (qa_gi1 c3 g4)⟩
        · replace h := qa_icf (q := 17) (qa_e rfl h) rfl (qa_F_lt c3)
          replace h := qa_iload (n := 3) (q := 18) (qa_e rfl h) rfl g3
          obtain ⟨lv, M, h, hM, es, g0, g1, g2, g3, g4⟩ : ∃ lv M, q4_run f 173 59 lv [] M 0 0 = some r ∧ qa_O M ∧ qa_s M = m1 ∧ q4_get lv 0 = some (.ref 99) ∧ q4_get lv 1 = some (.int (a1)) ∧ q4_get lv 2 = some (.int (a2)) ∧ q4_get lv 3 = some (.int (a3)) ∧ q4_get lv 4 = some (.int ((if a3 < (0 : Int32) then (-4 : Int32) else (if (15 : Int32) < a1 then (-6 : Int32) else (if (9 : Int32) < a2 then (-6 : Int32) else (if (9 : Int32) < a3 then (-6 : Int32) else (if (m1 99 5) = (6 : Int32) then (-6 : Int32) else (0 : Int32)))))))) := by
            by_cases c4 : a3 < (0 : Int32)
            · replace h := qa_icf (q := 21) (qa_e rfl h) rfl (qa_F_ge c4)
              replace h := qa_push (z := (-4 : Int32)) (q := 23) (qa_e rfl h) rfl (by decide)
              obtain ⟨lv, h, g, T⟩ := qa_istore (n := 4) (q := 25) (qa_e rfl h) rfl
              replace g0 := T _ _ g0 (by decide) (Or.inr rfl)
              replace g1 := T _ _ g1 (by decide) (Or.inr rfl)
              replace g2 := T _ _ g2 (by decide) (Or.inr rfl)
              replace g3 := T _ _ g3 (by decide) (Or.inr rfl)
              have g4 := g
              clear g T
              replace h := qa_goto (q := 59) (qa_e rfl h) rfl
              exact ⟨lv, M, h, hM, es, g0, g1, g2, g3, (qa_gi1 c4 g4)⟩
            · replace h := qa_ict (q := 28) (qa_e rfl h) rfl (qa_T_ge c4)
              replace h := qa_iload (n := 1) (q := 29) (qa_e rfl h) rfl g1
              replace h := qa_push (z := (15 : Int32)) (q := 31) (qa_e rfl h) rfl (by decide)
              obtain ⟨lv, M, h, hM, es, g0, g1, g2, g3, g4⟩ : ∃ lv M, q4_run f 173 59 lv [] M 0 0 = some r ∧ qa_O M ∧ qa_s M = m1 ∧ q4_get lv 0 = some (.ref 99) ∧ q4_get lv 1 = some (.int (a1)) ∧ q4_get lv 2 = some (.int (a2)) ∧ q4_get lv 3 = some (.int (a3)) ∧ q4_get lv 4 = some (.int ((if (15 : Int32) < a1 then (-6 : Int32) else (if (9 : Int32) < a2 then (-6 : Int32) else (if (9 : Int32) < a3 then (-6 : Int32) else (if (m1 99 5) = (6 : Int32) then (-6 : Int32) else (0 : Int32))))))) := by
                by_cases c5 : (15 : Int32) < a1
                · replace h := qa_ift (q := 55) (qa_e rfl h) rfl (qa_T_gt c5)
                  replace h := qa_push (z := (-6 : Int32)) (q := 57) (qa_e rfl h) rfl (by decide)
                  obtain ⟨lv, h, g, T⟩ := qa_istore (n := 4) (q := 59) (qa_e rfl h) rfl
                  replace g0 := T _ _ g0 (by decide) (Or.inr rfl)
                  replace g1 := T _ _ g1 (by decide) (Or.inr rfl)
                  replace g2 := T _ _ g2 (by decide) (Or.inr rfl)
                  replace g3 := T _ _ g3 (by decide) (Or.inr rfl)
                  have g4 := g
                  clear g T
                  exact ⟨lv, M, h, hM, es, g0, g1, g2, g3, (qa_gi1 c5 g4)⟩
                · replace h := qa_iff (q := 34) (qa_e rfl h) rfl (qa_F_gt c5)
                  replace h := qa_iload (n := 2) (q := 35) (qa_e rfl h) rfl g2
                  replace h := qa_push (z := (9 : Int32)) (q := 37) (qa_e rfl h) rfl (by decide)
                  obtain ⟨lv, M, h, hM, es, g0, g1, g2, g3, g4⟩ : ∃ lv M, q4_run f 173 59 lv [] M 0 0 = some r ∧ qa_O M ∧ qa_s M = m1 ∧ q4_get lv 0 = some (.ref 99) ∧ q4_get lv 1 = some (.int (a1)) ∧ q4_get lv 2 = some (.int (a2)) ∧ q4_get lv 3 = some (.int (a3)) ∧ q4_get lv 4 = some (.int ((if (9 : Int32) < a2 then (-6 : Int32) else (if (9 : Int32) < a3 then (-6 : Int32) else (if (m1 99 5) = (6 : Int32) then (-6 : Int32) else (0 : Int32)))))) := by
                    by_cases c6 : (9 : Int32) < a2
                    · replace h := qa_ift (q := 55) (qa_e rfl h) rfl (qa_T_gt c6)
                      replace h := qa_push (z := (-6 : Int32)) (q := 57) (qa_e rfl h) rfl (by decide)
                      obtain ⟨lv, h, g, T⟩ := qa_istore (n := 4) (q := 59) (qa_e rfl h) rfl
                      replace g0 := T _ _ g0 (by decide) (Or.inr rfl)
                      replace g1 := T _ _ g1 (by decide) (Or.inr rfl)
                      replace g2 := T _ _ g2 (by decide) (Or.inr rfl)
                      replace g3 := T _ _ g3 (by decide) (Or.inr rfl)
                      have g4 := g
                      clear g T
                      exact ⟨lv, M, h, hM, es, g0, g1, g2, g3, (qa_gi1 c6 g4)⟩
                    · replace h := qa_iff (q := 40) (qa_e rfl h) rfl (qa_F_gt c6)
                      replace h := qa_iload (n := 3) (q := 41) (qa_e rfl h) rfl g3
                      replace h := qa_push (z := (9 : Int32)) (q := 43) (qa_e rfl h) rfl (by decide)
                      obtain ⟨lv, M, h, hM, es, g0, g1, g2, g3, g4⟩ : ∃ lv M, q4_run f 173 59 lv [] M 0 0 = some r ∧ qa_O M ∧ qa_s M = m1 ∧ q4_get lv 0 = some (.ref 99) ∧ q4_get lv 1 = some (.int (a1)) ∧ q4_get lv 2 = some (.int (a2)) ∧ q4_get lv 3 = some (.int (a3)) ∧ q4_get lv 4 = some (.int ((if (9 : Int32) < a3 then (-6 : Int32) else (if (m1 99 5) = (6 : Int32) then (-6 : Int32) else (0 : Int32))))) := by
                        by_cases c7 : (9 : Int32) < a3
                        · replace h := qa_ift (q := 55) (qa_e rfl h) rfl (qa_T_gt c7)
                          replace h := qa_push (z := (-6 : Int32)) (q := 57) (qa_e rfl h) rfl (by decide)
                          obtain ⟨lv, h, g, T⟩ := qa_istore (n := 4) (q := 59) (qa_e rfl h) rfl
                          replace g0 := T _ _ g0 (by decide) (Or.inr rfl)
                          replace g1 := T _ _ g1 (by decide) (Or.inr rfl)
                          replace g2 := T _ _ g2 (by decide) (Or.inr rfl)
                          replace g3 := T _ _ g3 (by decide) (Or.inr rfl)
                          have g4 := g
                          clear g T
                          exact ⟨lv, M, h, hM, es, g0, g1, g2, g3, (qa_gi1 c7 g4)⟩
                        · replace h := qa_iff (q := 46) (qa_e rfl h) rfl (qa_F_gt c7)
                          replace h := qa_aload (n := 0) (q := 47) (qa_e rfl h) rfl g0
                          replace h := qa_gi (j := 5) (q := 50) (qa_e rfl h) rfl hM es rfl (by decide)
                          replace h := qa_push (z := (6 : Int32)) (q := 52) (qa_e rfl h) rfl (by decide)
                          obtain ⟨lv, M, h, hM, es, g0, g1, g2, g3, g4⟩ : ∃ lv M, q4_run f 173 59 lv [] M 0 0 = some r ∧ qa_O M ∧ qa_s M = m1 ∧ q4_get lv 0 = some (.ref 99) ∧ q4_get lv 1 = some (.int (a1)) ∧ q4_get lv 2 = some (.int (a2)) ∧ q4_get lv 3 = some (.int (a3)) ∧ q4_get lv 4 = some (.int ((if (m1 99 5) = (6 : Int32) then (-6 : Int32) else (0 : Int32)))) := by
                            by_cases c8 : (m1 99 5) = (6 : Int32)
                            · replace h := qa_iff (q := 55) (qa_e rfl h) rfl (qa_F_ne c8)
                              replace h := qa_push (z := (-6 : Int32)) (q := 57) (qa_e rfl h) rfl (by decide)
                              obtain ⟨lv, h, g, T⟩ := qa_istore (n := 4) (q := 59) (qa_e rfl h) rfl
                              replace g0 := T _ _ g0 (by decide) (Or.inr rfl)
                              replace g1 := T _ _ g1 (by decide) (Or.inr rfl)
                              replace g2 := T _ _ g2 (by decide) (Or.inr rfl)
                              replace g3 := T _ _ g3 (by decide) (Or.inr rfl)
                              have g4 := g
                              clear g T
                              exact ⟨lv, M, h, hM, es, g0, g1, g2, g3, (qa_gi1 c8 g4)⟩
                            · replace h := qa_ift (q := 59) (qa_e rfl h) rfl (qa_T_ne c8)
                              exact ⟨lv, M, h, hM, es, g0, g1, g2, g3, (qa_gi0 c8 g4)⟩
                          exact ⟨lv, M, h, hM, es, g0, g1, g2, g3, (qa_gi0 c7 g4)⟩
                      exact ⟨lv, M, h, hM, es, g0, g1, g2, g3, (qa_gi0 c6 g4)⟩
                  exact ⟨lv, M, h, hM, es, g0, g1, g2, g3, (qa_gi0 c5 g4)⟩
              exact ⟨lv, M, h, hM, es, g0, g1, g2, g3, (qa_gi0 c4 g4)⟩
          exact ⟨lv, M, h, hM, es, g0, g1, g2, g3, (qa_gi0 c3 g4)⟩
      exact ⟨lv, M, h, hM, es, g0, g1, g2, g3, (qa_gi0 c2 g4)⟩
  replace h := qa_iload (n := 4) (q := 61) (qa_e rfl h) rfl g4
  by_cases c9 : (if a1 < (1 : Int32) then (-4 : Int32) else (if a2 < (0 : Int32) then (-4 : Int32) else (if a3 < (0 : Int32) then (-4 : Int32) else (if (15 : Int32) < a1 then (-6 : Int32) else (if (9 : Int32) < a2 then (-6 : Int32) else (if (9 : Int32) < a3 then (-6 : Int32) else (if (m1 99 5) = (6 : Int32) then (-6 : Int32) else (0 : Int32)))))))) < (0 : Int32)
  · replace h := qa_icf (q := 64) (qa_e rfl h) rfl (qa_F_ge c9)
    replace h := qa_aload (n := 0) (q := 65) (qa_e rfl h) rfl g0
    replace h := qa_iload (n := 4) (q := 67) (qa_e rfl h) rfl g4
    obtain ⟨r10, er10⟩ : ∃ x, x = (ma_152_99 (if a1 < (1 : Int32) then (-4 : Int32) else (if a2 < (0 : Int32) then (-4 : Int32) else (if a3 < (0 : Int32) then (-4 : Int32) else (if (15 : Int32) < a1 then (-6 : Int32) else (if (9 : Int32) < a2 then (-6 : Int32) else (if (9 : Int32) < a3 then (-6 : Int32) else (if (m1 99 5) = (6 : Int32) then (-6 : Int32) else (0 : Int32)))))))) m1) := ⟨_, rfl⟩
    obtain ⟨M, h, hM, es⟩ := qa_c1 (y := 152) (as := [.ref 99, .int ((if a1 < (1 : Int32) then (-4 : Int32) else (if a2 < (0 : Int32) then (-4 : Int32) else (if a3 < (0 : Int32) then (-4 : Int32) else (if (15 : Int32) < a1 then (-6 : Int32) else (if (9 : Int32) < a2 then (-6 : Int32) else (if (9 : Int32) < a3 then (-6 : Int32) else (if (m1 99 5) = (6 : Int32) then (-6 : Int32) else (0 : Int32)))))))))]) (rest := []) (i := .invokevirtual 152) (q := 70) (qa_e rfl h) (Or.inl rfl) rfl rfl (by decide) rfl (fun r hc => mb_152_99 hM es hc)
    rw [← er10] at h es
    have er := qa_ri (qa_e rfl h)
    subst er
    have e0 : ma_173_99 a1 a2 a3 σ = (r10.1, r10.2) := by exact Eq.trans (qa_ie em1) (Eq.trans (if_pos c9) (Eq.trans (qa_ie er10) (rfl)))
    rw [e0]
    exact ⟨rfl, hM, es⟩
  · replace h := qa_ict (q := 71) (qa_e rfl h) rfl (qa_T_ge c9)
    replace h := qa_aload (n := 0) (q := 72) (qa_e rfl h) rfl g0
    replace h := qa_iload (n := 1) (q := 73) (qa_e rfl h) rfl g1
    replace h := qa_iload (n := 2) (q := 74) (qa_e rfl h) rfl g2
    replace h := qa_iload (n := 3) (q := 75) (qa_e rfl h) rfl g3
    obtain ⟨m11, em11⟩ : ∃ x, x = (ma_164_99 a1 a2 a3 m1) := ⟨_, rfl⟩
    obtain ⟨M, h, hM, es⟩ := qa_c0 (y := 164) (as := [.ref 99, .int (a1), .int (a2), .int (a3)]) (rest := []) (i := .invokevirtual 164) (q := 78) (qa_e rfl h) (Or.inl rfl) rfl rfl (by decide) rfl (fun r hc => mb_164_99 hM es hc)
    rw [← em11] at es
    replace h := qa_aload (n := 0) (q := 79) (qa_e rfl h) rfl g0
    replace h := qa_push (z := (0 : Int32)) (q := 80) (qa_e rfl h) rfl (by decide)
    obtain ⟨m12, em12⟩ : ∃ x, x = qa_u m11 99 32 (0 : Int32) := ⟨_, rfl⟩
    obtain ⟨M, h, hM, es⟩ := qa_pf (j := 32) (q := 83) (qa_e rfl h) rfl hM es rfl (by decide)
    rw [← em12] at es
    replace h := qa_aload (n := 0) (q := 84) (qa_e rfl h) rfl g0
    replace h := qa_gi (j := 5) (q := 87) (qa_e rfl h) rfl hM es rfl (by decide)
    replace h := qa_push (z := (1 : Int32)) (q := 88) (qa_e rfl h) rfl (by decide)
    replace h := qa_isub (q := 89) (qa_e rfl h) rfl
    have er := qa_ri (qa_e rfl h)
    subst er
    have e0 : ma_173_99 a1 a2 a3 σ = (((m12 99 5) - (1 : Int32)), m12) := by exact Eq.trans (qa_ie em1) (Eq.trans (if_neg c9) (Eq.trans (qa_ie em11) (Eq.trans (qa_ie em12) (rfl))))
    rw [e0]
    exact ⟨rfl, hM, es⟩
