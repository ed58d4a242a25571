noncomputable def mc_135_3_p13 (N : Nat) (s : Int32 × qa_S) : (Int32 × qa_S) ⊕ (Int32 × qa_S) :=
  if s.1 < (4 : Int32) then
    qa_in ((ma_69_80 s.1 (s.2 94 s.1.toNatClampNeg) (0 : Int32) s.2)) fun m2 =>
    .inl ((s.1 + (1 : Int32)), m2)
  else
    .inr (s.1, s.2)
theorem md_135_3_p13 {N F : Nat} {r : Option Value × q4_M} (hN : F ≤ N) : ∀ f n, f ≤ n → f ≤ F → ∀ (s : Int32 × qa_S) (lv : List (Nat × Value)) (M : q4_M), qa_O M → qa_s M = s.2 → q4_get lv 0 = some (.ref 3) → q4_get lv 1 = some (.int (s.1)) → q4_run f 135 13 lv [] M 0 0 = some r → ∃ lv M, q4_run F 135 39 lv [] M 0 0 = some r ∧ qa_O M ∧ qa_s M = (qa_wh (fun s => s) (mc_135_3_p13 N) n s).2 ∧ q4_get lv 0 = some (.ref 3) := by
  intro f
  induction f with
  | zero => intro n _ _ s lv M hM es _ _ h; cases h
  | succ f ih =>
    intro n hn hF s lv M hM es g0 g1 h
    obtain ⟨n, rfl⟩ : ∃ n1, n = n1 + 1 := ⟨n - 1, by omega⟩
    replace hn : f ≤ n := Nat.le_of_succ_le_succ hn
    have hN := Nat.le_trans (Nat.le_of_succ_le hF) hN
    replace h := qa_iload (n := 1) (q := 14) (qa_d rfl h) rfl g1
    replace h := qa_push (z := (4 : Int32)) (q := 15) (qa_e rfl h) rfl (by decide)
    by_cases c1 : s.1 < (4 : Int32)
    · replace h := qa_iff (q := 18) (qa_e rfl h) rfl (qa_F_ge c1)
      replace h := qa_aload (n := 0) (q := 19) (qa_e rfl h) rfl g0
      replace h := qa_gr (b := 80) (j := 4) (q := 22) (qa_e rfl h) rfl hM rfl (by decide)
      replace h := qa_iload (n := 1) (q := 23) (qa_e rfl h) rfl g1
      replace h := qa_aload (n := 0) (q := 24) (qa_e rfl h) rfl g0
      replace h := qa_gr (b := 94) (j := 11) (q := 27) (qa_e rfl h) rfl hM rfl (by decide)
      replace h := qa_iload (n := 1) (q := 28) (qa_e rfl h) rfl g1
      replace h := qa_iaload (jn := s.1.toNatClampNeg) (q := 29) (qa_e rfl h) rfl hM es rfl
      replace h := qa_push (z := (0 : Int32)) (q := 30) (qa_e rfl h) rfl (by decide)
      obtain ⟨m2, em2⟩ : ∃ x, x = (ma_69_80 s.1 (s.2 94 s.1.toNatClampNeg) (0 : Int32) s.2) := ⟨_, rfl⟩
      obtain ⟨M, h, hM, es⟩ := qa_c0 (y := 69) (as := [.ref 80, .int (s.1), .int ((s.2 94 s.1.toNatClampNeg)), .int ((0 : Int32))]) (rest := []) (i := .invokevirtual 69) (q := 33) (qa_e rfl h) (Or.inl rfl) rfl rfl (by decide) rfl (fun r hc => mb_69_80 hM es hc)
      rw [← em2] at es
      obtain ⟨lv, h, g, T⟩ := qa_iinc (n := 1) (z := (1 : Int32)) (q := 36) (qa_e rfl h) rfl (by decide) g1
      replace g0 := T _ _ g0 (by decide) (Or.inr rfl)
      replace g1 := g
      clear g T
      replace h := qa_goto (q := 13) (qa_e rfl h) rfl
      have e0 : mc_135_3_p13 N s = .inl ((s.1 + (1 : Int32)), m2) := by exact Eq.trans (if_pos c1) (Eq.trans (qa_ie em2) (rfl))
      rw [qa_whl e0]
      exact ih n hn (Nat.le_of_succ_le hF) ((s.1 + (1 : Int32)), m2) _ _ hM es g0 g1 h
    · replace h := qa_ift (q := 39) (qa_e rfl h) rfl (qa_T_ge c1)
      have e0 : mc_135_3_p13 N s = .inr (s.1, s.2) := by exact Eq.trans (if_neg c1) (rfl)
      rw [qa_whr e0]
      exact ⟨_, _, q61_mono f F _ _ _ _ _ _ _ _ (Nat.le_of_succ_le hF) h, hM, es, g0⟩
/-- BuriedBySevens, alikeGlasses, ()I -/
noncomputable def ma_135_3 (N : Nat) (σ : qa_S) : Int32 × qa_S :=
  qa_in ((ma_46_3 N σ)) fun m1 =>
  qa_in ((ma_67_80 N m1)) fun m2 =>
  qa_in ((qa_wh (fun s => s) (mc_135_3_p13 N) N ((0 : Int32), m2))) fun r3 =>
  qa_in ((ma_72_3 N r3.2)) fun m4 =>
  qa_in ((ma_75_73_80 N m4)) fun r5 =>
  (r5, m4)
theorem mb_135_3 {f N : Nat} (hN : f ≤ N) {M : q4_M} {r : Option Value × q4_M} {σ : qa_S} (hM : qa_O M) (es : qa_s M = σ) (h : q4_run f 135 0 (lv_args 0 [.ref 3]) [] M 0 0 = some r) : r.1 = some (.int ((ma_135_3 N σ).1)) ∧ qa_O r.2 ∧ qa_s r.2 = (ma_135_3 N σ).2 := by
  obtain ⟨lv, el⟩ : ∃ l, l = lv_args 0 [.ref 3] := ⟨_, rfl⟩
  have g0 : q4_get lv 0 = some (.ref 3) := by rw [el]; rfl
  rw [← el] at h
  clear el
  replace h := qa_aload (n := 0) (q := 1) (qa_e rfl h) rfl g0
  obtain ⟨m1, em1⟩ : ∃ x, x = (ma_46_3 N σ) := ⟨_, rfl⟩
  obtain ⟨M, h, hM, es⟩ := qa_c0 (y := 46) (as := [.ref 3]) (rest := []) (i := .invokevirtual 46) (q := 4) (qa_e rfl h) (Or.inl rfl) rfl rfl (by decide) rfl (fun r hc => mb_46_3 hN hM es hc)
  rw [← em1] at es
  replace h := qa_aload (n := 0) (q := 5) (qa_e rfl h) rfl g0
  replace h := qa_gr (b := 80) (j := 4) (q := 8) (qa_e rfl h) rfl hM rfl (by decide)
  obtain ⟨m2, em2⟩ : ∃ x, x = (ma_67_80 N m1) := ⟨_, rfl⟩
  obtain ⟨M, h, hM, es⟩ := qa_c0 (y := 67) (as := [.ref 80]) (rest := []) (i := .invokevirtual 67) (q := 11) (qa_e rfl h) (Or.inl rfl) rfl rfl (by decide) rfl (fun r hc => mb_67_80 hN hM es hc)
  rw [← em2] at es
  replace h := qa_push (z := (0 : Int32)) (q := 12) (qa_e rfl h) rfl (by decide)
  obtain ⟨lv, h, g, T⟩ := qa_istore (n := 1) (q := 13) (qa_e rfl h) rfl
  replace g0 := T _ _ g0 (by decide) (Or.inr rfl)
  have g1 := g
  clear g T
  obtain ⟨r3, er3⟩ : ∃ x, x = (qa_wh (fun s => s) (mc_135_3_p13 N) N ((0 : Int32), m2)) := ⟨_, rfl⟩
  have L := md_135_3_p13 (F := f) (N := N) (r := r) hN f N hN (Nat.le_refl f) ((0 : Int32), m2) _ _ hM es g0 g1 h
  rw [← er3] at L
  obtain ⟨lv, M, h, hM, es, g0⟩ := L
  replace h := qa_aload (n := 0) (q := 40) (qa_e rfl h) rfl g0
  obtain ⟨m4, em4⟩ : ∃ x, x = (ma_72_3 N r3.2) := ⟨_, rfl⟩
  obtain ⟨M, h, hM, es⟩ := qa_c1 (y := 72) (as := [.ref 3]) (rest := []) (i := .invokevirtual 72) (q := 43) (qa_e rfl h) (Or.inl rfl) rfl rfl (by decide) rfl (fun r hc => mb_72_3 hN hM es hc)
  rw [← em4] at es
  replace h := qa_aload (n := 0) (q := 44) (qa_e rfl h) rfl g0
  replace h := qa_gr (b := 80) (j := 4) (q := 47) (qa_e rfl h) rfl hM rfl (by decide)
  obtain ⟨r5, er5⟩ : ∃ x, x = (ma_75_73_80 N m4) := ⟨_, rfl⟩
  obtain ⟨M, h, hM, es⟩ := qa_c1 (y := 75) (as := [.ref 73, .ref 80]) (rest := []) (i := .invokevirtual 75) (q := 50) (qa_e rfl h) (Or.inl rfl) rfl rfl (by decide) rfl (fun r hc => mb_75_73_80 hN hM es hc)
  rw [← er5] at h
  have er := qa_ri (qa_e rfl h)
  subst er
  have e0 : ma_135_3 N σ = (r5, m4) := by exact Eq.trans (qa_ie em1) (Eq.trans (qa_ie em2) (Eq.trans (qa_ie er3) (Eq.trans (qa_ie em4) (Eq.trans (qa_ie er5) (rfl)))))
  rw [e0]
  exact ⟨rfl, hM, es⟩
/-- BuriedBySevens, blind, (II)I -/
noncomputable def ma_136_3 (N : Nat) (a1 : Int32) (a2 : Int32) (σ : qa_S) : Int32 × qa_S :=
  if (ma_33_4 a1 σ) = (0 : Int32) then
    qa_in ((ma_9_3 (-1 : Int32) σ)) fun r2 =>
    (r2.1, r2.2)
  else
    if (ma_57 a2) = (0 : Int32) then
      qa_in ((ma_9_3 (-2 : Int32) σ)) fun r4 =>
      (r4.1, r4.2)
    else
      qa_in ((ma_58_3 N σ)) fun m5 =>
      qa_in ((ma_61_3 N ((1 : Int32) <<< (a1 &&& 31)) m5)) fun r6 =>
      qa_in ((ma_62_3 N ((ma_59_3 m5) &&& (r6 ^^^ (-1 : Int32))) a2 m5)) fun r7 =>
      (r7, m5)
theorem mb_136_3 {f N : Nat} (hN : f ≤ N) {M : q4_M} {r : Option Value × q4_M} {σ : qa_S} {a1 : Int32} {a2 : Int32} (hM : qa_O M) (es : qa_s M = σ) (h : q4_run f 136 0 (lv_args 0 [.ref 3, .int (a1), .int (a2)]) [] M 0 0 = some r) : r.1 = some (.int ((ma_136_3 N a1 a2 σ).1)) ∧ qa_O r.2 ∧ qa_s r.2 = (ma_136_3 N a1 a2 σ).2 := by
  obtain ⟨lv, el⟩ : ∃ l, l = lv_args 0 [.ref 3, .int (a1), .int (a2)] := ⟨_, rfl⟩
  have g0 : q4_get lv 0 = some (.ref 3) := by rw [el]; rfl
  have g1 : q4_get lv 1 = some (.int (a1)) := by rw [el]; rfl
  have g2 : q4_get lv 2 = some (.int (a2)) := by rw [el]; rfl
  rw [← el] at h
  clear el
  replace h := qa_aload (n := 0) (q := 1) (qa_e rfl h) rfl g0
  replace h := qa_gr (b := 4) (j := 0) (q := 4) (qa_e rfl h) rfl hM rfl (by decide)
  replace h := qa_iload (n := 1) (q := 5) (qa_e rfl h) rfl g1
  obtain ⟨M, h, hM, es⟩ := qa_c1 (y := 33) (as := [.ref 4, .int (a1)]) (rest := []) (i := .invokevirtual 33) (q := 8) (qa_e rfl h) (Or.inl rfl) rfl rfl (by decide) rfl (fun r hc => mb_33_4 hM es hc)
  by_cases c1 : (ma_33_4 a1 σ) = (0 : Int32)
  · replace h := qa_icf (q := 11) (qa_e rfl h) rfl (qa_F_ne c1)
    replace h := qa_aload (n := 0) (q := 12) (qa_e rfl h) rfl g0
    replace h := qa_push (z := (-1 : Int32)) (q := 13) (qa_e rfl h) rfl (by decide)
    obtain ⟨r2, er2⟩ : ∃ x, x = (ma_9_3 (-1 : Int32) σ) := ⟨_, rfl⟩
    obtain ⟨M, h, hM, es⟩ := qa_c1 (y := 9) (as := [.ref 3, .int ((-1 : Int32))]) (rest := []) (i := .invokevirtual 9) (q := 16) (qa_e rfl h) (Or.inl rfl) rfl rfl (by decide) rfl (fun r hc => mb_9_3 hM es hc)
    rw [← er2] at h es
    have er := qa_ri (qa_e rfl h)
    subst er
    have e0 : ma_136_3 N a1 a2 σ = (r2.1, r2.2) := by exact Eq.trans (if_pos c1) (Eq.trans (qa_ie er2) (rfl))
    rw [e0]
    exact ⟨rfl, hM, es⟩
  · replace h := qa_ict (q := 17) (qa_e rfl h) rfl (qa_T_ne c1)
    replace h := qa_iload (n := 2) (q := 18) (qa_e rfl h) rfl g2
    obtain ⟨M, h, hM, es⟩ := qa_c1 (y := 57) (as := [.int (a2)]) (rest := []) (i := .invokestatic 57) (q := 21) (qa_e rfl h) (Or.inr rfl) rfl rfl (by decide) rfl (fun r hc => mb_57 hM es hc)
    by_cases c3 : (ma_57 a2) = (0 : Int32)
    · replace h := qa_icf (q := 24) (qa_e rfl h) rfl (qa_F_ne c3)
      replace h := qa_aload (n := 0) (q := 25) (qa_e rfl h) rfl g0
      replace h := qa_push (z := (-2 : Int32)) (q := 27) (qa_e rfl h) rfl (by decide)
      obtain ⟨r4, er4⟩ : ∃ x, x = (ma_9_3 (-2 : Int32) σ) := ⟨_, rfl⟩
      obtain ⟨M, h, hM, es⟩ := qa_c1 (y := 9) (as := [.ref 3, .int ((-2 : Int32))]) (rest := []) (i := .invokevirtual 9) (q := 30) (qa_e rfl h) (Or.inl rfl) rfl rfl (by decide) rfl (fun r hc => mb_9_3 hM es hc)
      rw [← er4] at h es
      have er := qa_ri (qa_e rfl h)
      subst er
      have e0 : ma_136_3 N a1 a2 σ = (r4.1, r4.2) := by exact Eq.trans (if_neg c1) (Eq.trans (if_pos c3) (Eq.trans (qa_ie er4) (rfl)))
      rw [e0]
      exact ⟨rfl, hM, es⟩
    · replace h := qa_ict (q := 31) (qa_e rfl h) rfl (qa_T_ne c3)
      replace h := qa_aload (n := 0) (q := 32) (qa_e rfl h) rfl g0
      obtain ⟨m5, em5⟩ : ∃ x, x = (ma_58_3 N σ) := ⟨_, rfl⟩
      obtain ⟨M, h, hM, es⟩ := qa_c0 (y := 58) (as := [.ref 3]) (rest := []) (i := .invokevirtual 58) (q := 35) (qa_e rfl h) (Or.inl rfl) rfl rfl (by decide) rfl (fun r hc => mb_58_3 hN hM es hc)
      rw [← em5] at es
      replace h := qa_aload (n := 0) (q := 36) (qa_e rfl h) rfl g0
      replace h := qa_aload (n := 0) (q := 37) (qa_e rfl h) rfl g0
      obtain ⟨M, h, hM, es⟩ := qa_c1 (y := 59) (as := [.ref 3]) (rest := [.ref 3]) (i := .invokevirtual 59) (q := 40) (qa_e rfl h) (Or.inl rfl) rfl rfl (by decide) rfl (fun r hc => mb_59_3 hM es hc)
      replace h := qa_aload (n := 0) (q := 41) (qa_e rfl h) rfl g0
      replace h := qa_push (z := (1 : Int32)) (q := 42) (qa_e rfl h) rfl (by decide)
      replace h := qa_iload (n := 1) (q := 43) (qa_e rfl h) rfl g1
      replace h := qa_ishl (q := 44) (qa_e rfl h) rfl
      obtain ⟨r6, er6⟩ : ∃ x, x = (ma_61_3 N ((1 : Int32) <<< (a1 &&& 31)) m5) := ⟨_, rfl⟩
      obtain ⟨M, h, hM, es⟩ := qa_c1 (y := 61) (as := [.ref 3, .int (((1 : Int32) <<< (a1 &&& 31)))]) (rest := [.int ((ma_59_3 m5)), .ref 3]) (i := .invokevirtual 61) (q := 47) (qa_e rfl h) (Or.inl rfl) rfl rfl (by decide) rfl (fun r hc => mb_61_3 hN hM es hc)
      rw [← er6] at h
      replace h := qa_push (z := (-1 : Int32)) (q := 48) (qa_e rfl h) rfl (by decide)
      replace h := qa_ixor (q := 49) (qa_e rfl h) rfl
      replace h := qa_iand (q := 50) (qa_e rfl h) rfl
      replace h := qa_iload (n := 2) (q := 51) (qa_e rfl h) rfl g2
      obtain ⟨r7, er7⟩ : ∃ x, x = (ma_62_3 N ((ma_59_3 m5) &&& (r6 ^^^ (-1 : Int32))) a2 m5) := ⟨_, rfl⟩
      obtain ⟨M, h, hM, es⟩ := qa_c1 (y := 62) (as := [.ref 3, .int (((ma_59_3 m5) &&& (r6 ^^^ (-1 : Int32)))), .int (a2)]) (rest := []) (i := .invokevirtual 62) (q := 54) (qa_e rfl h) (Or.inl rfl) rfl rfl (by decide) rfl (fun r hc => mb_62_3 hN hM es hc)
      rw [← er7] at h
      have er := qa_ri (qa_e rfl h)
      subst er
      have e0 : ma_136_3 N a1 a2 σ = (r7, m5) := by exact Eq.trans (if_neg c1) (Eq.trans (if_neg c3) (Eq.trans (qa_ie em5) (Eq.trans (qa_ie er6) (Eq.trans (qa_ie er7) (rfl)))))
      rw [e0]
      exact ⟨rfl, hM, es⟩
noncomputable def mc_138_3_p4 (N : Nat) (l1 : Int32) (σ : qa_S) (s : Int32 × Int32) : (Int32 × Int32) ⊕ (Int32 × Int32) :=
  if s.1 < (σ 4 0) then
    qa_in ((ma_99_3 N (17 + l1.toNatClampNeg) (17 + s.1.toNatClampNeg) σ)) fun r2 =>
    .inl ((s.1 + (1 : Int32)), (s.2 + r2))
  else
    .inr (s.1, s.2)
theorem md_138_3_p4 {N F : Nat} {r : Option Value × q4_M} {l1 : Int32} {σ : qa_S} (hN : F ≤ N) : ∀ f n, f ≤ n → f ≤ F → ∀ (s : Int32 × Int32) (lv : List (Nat × Value)) (M : q4_M), qa_O M → qa_s M = σ → q4_get lv 0 = some (.ref 3) → q4_get lv 1 = some (.int (l1)) → q4_get lv 2 = some (.int (s.2)) → q4_get lv 3 = some (.int (s.1)) → q4_run f 138 4 lv [] M 0 0 = some r → ∃ lv M, q4_run F 138 46 lv [] M 0 0 = some r ∧ qa_O M ∧ qa_s M = σ ∧ q4_get lv 2 = some (.int ((qa_wh (fun s => s) (mc_138_3_p4 N l1 σ) n s).2)) := by
  intro f
  induction f with
  | zero => intro n _ _ s lv M hM es _ _ _ _ h; cases h
  | succ f ih =>
    intro n hn hF s lv M hM es g0 g1 g2 g3 h
    obtain ⟨n, rfl⟩ : ∃ n1, n = n1 + 1 := ⟨n - 1, by omega⟩
    replace hn : f ≤ n := Nat.le_of_succ_le_succ hn
    have hN := Nat.le_trans (Nat.le_of_succ_le hF) hN
    replace h := qa_iload (n := 3) (q := 5) (qa_d rfl h) rfl g3
    replace h := qa_aload (n := 0) (q := 6) (qa_e rfl h) rfl g0
    replace h := qa_gr (b := 4) (j := 0) (q := 9) (qa_e rfl h) rfl hM rfl (by decide)
    replace h := qa_gi (j := 0) (q := 12) (qa_e rfl h) rfl hM es rfl (by decide)
    by_cases c1 : s.1 < (σ 4 0)
    · replace h := qa_iff (q := 15) (qa_e rfl h) rfl (qa_F_ge c1)
      replace h := qa_iload (n := 2) (q := 16) (qa_e rfl h) rfl g2
      replace h := qa_aload (n := 0) (q := 17) (qa_e rfl h) rfl g0
      replace h := qa_aload (n := 0) (q := 18) (qa_e rfl h) rfl g0
      replace h := qa_gr (b := 4) (j := 0) (q := 21) (qa_e rfl h) rfl hM rfl (by decide)
      replace h := qa_gr (b := 16) (j := 6) (q := 24) (qa_e rfl h) rfl hM rfl (by decide)
      replace h := qa_iload (n := 1) (q := 25) (qa_e rfl h) rfl g1
      replace h := qa_aaload (b := 17) (jn := l1.toNatClampNeg) (q := 26) (qa_e rfl h) rfl hM rfl (by decide) (by decide +kernel)
      replace h := qa_aload (n := 0) (q := 27) (qa_e rfl h) rfl g0
      replace h := qa_gr (b := 4) (j := 0) (q := 30) (qa_e rfl h) rfl hM rfl (by decide)
      replace h := qa_gr (b := 16) (j := 6) (q := 33) (qa_e rfl h) rfl hM rfl (by decide)
      replace h := qa_iload (n := 3) (q := 34) (qa_e rfl h) rfl g3
      replace h := qa_aaload (b := 17) (jn := s.1.toNatClampNeg) (q := 35) (qa_e rfl h) rfl hM rfl (by decide) (by decide +kernel)
      obtain ⟨r2, er2⟩ : ∃ x, x = (ma_99_3 N (17 + l1.toNatClampNeg) (17 + s.1.toNatClampNeg) σ) := ⟨_, rfl⟩
      obtain ⟨M, h, hM, es⟩ := qa_c1 (y := 99) (as := [.ref 3, .ref ((17 + l1.toNatClampNeg)), .ref ((17 + s.1.toNatClampNeg))]) (rest := [.int (s.2)]) (i := .invokevirtual 99) (q := 38) (qa_e rfl h) (Or.inl rfl) rfl rfl (by decide) rfl (fun r hc => mb_99_3 hN hM es hc)
      rw [← er2] at h
      replace h := qa_iadd (q := 39) (qa_e rfl h) rfl
      obtain ⟨lv, h, g, T⟩ := qa_istore (n := 2) (q := 40) (qa_e rfl h) rfl
      replace g0 := T _ _ g0 (by decide) (Or.inr rfl)
      replace g1 := T _ _ g1 (by decide) (Or.inr rfl)
      replace g3 := T _ _ g3 (by decide) (Or.inr rfl)
      have g2 := g
      clear g T
      obtain ⟨lv, h, g, T⟩ := qa_iinc (n := 3) (z := (1 : Int32)) (q := 43) (qa_e rfl h) rfl (by decide) g3
      replace g0 := T _ _ g0 (by decide) (Or.inr rfl)
      replace g1 := T _ _ g1 (by decide) (Or.inr rfl)
      replace g2 := T _ _ g2 (by decide) (Or.inr rfl)
      replace g3 := g
      clear g T
      replace h := qa_goto (q := 4) (qa_e rfl h) rfl
      have e0 : mc_138_3_p4 N l1 σ s = .inl ((s.1 + (1 : Int32)), (s.2 + r2)) := by exact Eq.trans (if_pos c1) (Eq.trans (qa_ie er2) (rfl))
      rw [qa_whl e0]
      exact ih n hn (Nat.le_of_succ_le hF) ((s.1 + (1 : Int32)), (s.2 + r2)) _ _ hM es g0 g1 g2 g3 h
    · replace h := qa_ift (q := 46) (qa_e rfl h) rfl (qa_T_ge c1)
      have e0 : mc_138_3_p4 N l1 σ s = .inr (s.1, s.2) := by exact Eq.trans (if_neg c1) (rfl)
      rw [qa_whr e0]
      exact ⟨_, _, q61_mono f F _ _ _ _ _ _ _ _ (Nat.le_of_succ_le hF) h, hM, es, g2⟩
/-- BuriedBySevens, howOftenApart, (I)I -/
noncomputable def ma_138_3 (N : Nat) (a1 : Int32) (σ : qa_S) : Int32 :=
  qa_in ((qa_wh (fun s => s) (mc_138_3_p4 N a1 σ) N ((0 : Int32), (0 : Int32)))) fun r1 =>
  r1.2
theorem mb_138_3 {f N : Nat} (hN : f ≤ N) {M : q4_M} {r : Option Value × q4_M} {σ : qa_S} {a1 : Int32} (hM : qa_O M) (es : qa_s M = σ) (h : q4_run f 138 0 (lv_args 0 [.ref 3, .int (a1)]) [] M 0 0 = some r) : r.1 = some (.int ((ma_138_3 N a1 σ))) ∧ qa_O r.2 ∧ qa_s r.2 = σ := by
  obtain ⟨lv, el⟩ : ∃ l, l = lv_args 0 [.ref 3, .int (a1)] := ⟨_, rfl⟩
  have g0 : q4_get lv 0 = some (.ref 3) := by rw [el]; rfl
  have g1 : q4_get lv 1 = some (.int (a1)) := by rw [el]; rfl
  rw [← el] at h
  clear el
  replace h := qa_push (z := (0 : Int32)) (q := 1) (qa_e rfl h) rfl (by decide)
  obtain ⟨lv, h, g, T⟩ := qa_istore (n := 2) (q := 2) (qa_e rfl h) rfl
  replace g0 := T _ _ g0 (by decide) (Or.inr rfl)
  replace g1 := T _ _ g1 (by decide) (Or.inr rfl)
  have g2 := g
  clear g T
  replace h := qa_push (z := (0 : Int32)) (q := 3) (qa_e rfl h) rfl (by decide)
  obtain ⟨lv, h, g, T⟩ := qa_istore (n := 3) (q := 4) (qa_e rfl h) rfl
  replace g0 := T _ _ g0 (by decide) (Or.inr rfl)
  replace g1 := T _ _ g1 (by decide) (Or.inr rfl)
  replace g2 := T _ _ g2 (by decide) (Or.inr rfl)
  have g3 := g
  clear g T
  obtain ⟨r1, er1⟩ : ∃ x, x = (qa_wh (fun s => s) (mc_138_3_p4 N a1 σ) N ((0 : Int32), (0 : Int32))) := ⟨_, rfl⟩
  have L := md_138_3_p4 (l1 := a1) (σ := σ) (F := f) (N := N) (r := r) hN f N hN (Nat.le_refl f) ((0 : Int32), (0 : Int32)) _ _ hM es g0 g1 g2 g3 h
  rw [← er1] at L
  obtain ⟨lv, M, h, hM, es, g2⟩ := L
  replace h := qa_iload (n := 2) (q := 47) (qa_e rfl h) rfl g2
  have er := qa_ri (qa_e rfl h)
  subst er
  have e0 : ma_138_3 N a1 σ = r1.2 := by exact Eq.trans (qa_ie er1) (rfl)
  rw [e0]
  exact ⟨rfl, hM, es⟩
noncomputable def mc_137_3_p22 (N : Nat) (l1 : Int32) (σ : qa_S) (s : Int32 × Int32 × Int32) : (Int32 × Int32 × Int32) ⊕ (Int32 × Int32 × Int32) :=
  if s.1 < (σ 4 0) then
    qa_in ((ma_138_3 N s.1 σ)) fun r2 =>
    .inl ((s.1 + (1 : Int32)), (if s.2.1 = (-9 : Int32) then s.1 else (if s.2.2 < r2 then s.1 else s.2.1)), (if s.2.1 = (-9 : Int32) then r2 else (if s.2.2 < r2 then r2 else s.2.2)))
  else
    .inr (s.1, s.2.1, s.2.2)
theorem md_137_3_p22 {N F : Nat} {r : Option Value × q4_M} {l1 : Int32} {σ : qa_S} (hN : F ≤ N) : ∀ f n, f ≤ n → f ≤ F → ∀ (s : Int32 × Int32 × Int32) (lv : List (Nat × Value)) (M : q4_M), qa_O M → qa_s M = σ → q4_get lv 0 = some (.ref 3) → q4_get lv 1 = some (.int (l1)) → q4_get lv 2 = some (.int (s.2.1)) → q4_get lv 3 = some (.int (s.2.2)) → q4_get lv 4 = some (.int (s.1)) → q4_run f 137 22 lv [] M 0 0 = some r → ∃ lv M, q4_run F 137 66 lv [] M 0 0 = some r ∧ qa_O M ∧ qa_s M = σ ∧ q4_get lv 1 = some (.int (l1)) ∧ q4_get lv 2 = some (.int ((qa_wh (fun s => s) (mc_137_3_p22 N l1 σ) n s).2.1)) ∧ q4_get lv 3 = some (.int ((qa_wh (fun s => s) (mc_137_3_p22 N l1 σ) n s).2.2)) := by
  intro f
  induction f with
  | zero => intro n _ _ s lv M hM es _ _ _ _ _ h; cases h
  | succ f ih =>
    intro n hn hF s lv M hM es g0 g1 g2 g3 g4 h
    obtain ⟨n, rfl⟩ : ∃ n1, n = n1 + 1 := ⟨n - 1, by omega⟩
    replace hn : f ≤ n := Nat.le_of_succ_le_succ hn
    have hN := Nat.le_trans (Nat.le_of_succ_le hF) hN
    replace h := qa_iload (n := 4) (q := 24) (qa_d rfl h) rfl g4
    replace h := qa_aload (n := 0) (q := 25) (qa_e rfl h) rfl g0
    replace h := qa_gr (b := 4) (j := 0) (q := 28) (qa_e rfl h) rfl hM rfl (by decide)
    replace h := qa_gi (j := 0) (q := 31) (qa_e rfl h) rfl hM es rfl (by decide)
    by_cases c1 : s.1 < (σ 4 0)
    · replace h := qa_iff (q := 34) (qa_e rfl h) rfl (qa_F_ge c1)
      replace h := qa_aload (n := 0) (q := 35) (qa_e rfl h) rfl g0
      replace h := qa_iload (n := 4) (q := 37) (qa_e rfl h) rfl g4
      obtain ⟨r2, er2⟩ : ∃ x, x = (ma_138_3 N s.1 σ) := ⟨_, rfl⟩
      obtain ⟨M, h, hM, es⟩ := qa_c1 (y := 138) (as := [.ref 3, .int (s.1)]) (rest := []) (i := .invokevirtual 138) (q := 40) (qa_e rfl h) (Or.inl rfl) rfl rfl (by decide) rfl (fun r hc => mb_138_3 hN hM es hc)
      rw [← er2] at h
      obtain ⟨lv, h, g, T⟩ := qa_istore (n := 5) (q := 42) (qa_e rfl h) rfl
      replace g0 := T _ _ g0 (by decide) (Or.inr rfl)
      replace g1 := T _ _ g1 (by decide) (Or.inr rfl)
      replace g2 := T _ _ g2 (by decide) (Or.inr rfl)
      replace g3 := T _ _ g3 (by decide) (Or.inr rfl)
      replace g4 := T _ _ g4 (by decide) (Or.inr rfl)
      have g5 := g
      clear g T
      replace h := qa_iload (n := 2) (q := 43) (qa_e rfl h) rfl g2
      replace h := qa_push (z := (-9 : Int32)) (q := 45) (qa_e rfl h) rfl (by decide)
      obtain ⟨lv, M, h, hM, es, g0, g1, g2, g3, g4⟩ : ∃ lv M, q4_run f 137 60 lv [] M 0 0 = some r ∧ qa_O M ∧ qa_s M = σ ∧ q4_get lv 0 = some (.ref 3) ∧ q4_get lv 1 = some (.int (l1)) ∧ q4_get lv 2 = some (.int ((if s.2.1 = (-9 : Int32) then s.1 else (if s.2.2 < r2 then s.1 else s.2.1)))) ∧ q4_get lv 3 = some (.int ((if s.2.1 = (-9 : Int32) then r2 else (if s.2.2 < r2 then r2 else s.2.2)))) ∧ q4_get lv 4 = some (.int (s.1)) := by
        by_cases c3 : s.2.1 = (-9 : Int32)
        · replace h := qa_ift (q := 54) (qa_e rfl h) rfl (qa_T_eq c3)
          replace h := qa_iload (n := 4) (q := 56) (qa_e rfl h) rfl g4
          obtain ⟨lv, h, g, T⟩ := qa_istore (n := 2) (q := 57) (qa_e rfl h) rfl
          replace g0 := T _ _ g0 (by decide) (Or.inr rfl)
          replace g1 := T _ _ g1 (by decide) (Or.inr rfl)
          replace g4 := T _ _ g4 (by decide) (Or.inr rfl)
          replace g5 := T _ _ g5 (by decide) (Or.inr rfl)
          have g2 := g
          clear g T
          replace h := qa_iload (n := 5) (q := 59) (qa_e rfl h) rfl g5
          obtain ⟨lv, h, g, T⟩ := qa_istore (n := 3) (q := 60) (qa_e rfl h) rfl
          replace g0 := T _ _ g0 (by decide) (Or.inr rfl)
          replace g1 := T _ _ g1 (by decide) (Or.inr rfl)
          replace g2 := T _ _ g2 (by decide) (Or.inr rfl)
          replace g4 := T _ _ g4 (by decide) (Or.inr rfl)
          have g3 := g
          clear g T
          exact ⟨lv, M, h, hM, es, g0, g1, (qa_gi1 c3 g2), (qa_gi1 c3 g3), g4⟩
        · replace h := qa_iff (q := 48) (qa_e rfl h) rfl (qa_F_eq c3)
          replace h := qa_iload (n := 5) (q := 50) (qa_e rfl h) rfl g5
          replace h := qa_iload (n := 3) (q := 51) (qa_e rfl h) rfl g3
          obtain ⟨lv, M, h, hM, es, g0, g1, g2, g3, g4⟩ : ∃ lv M, q4_run f 137 60 lv [] M 0 0 = some r ∧ qa_O M ∧ qa_s M = σ ∧ q4_get lv 0 = some (.ref 3) ∧ q4_get lv 1 = some (.int (l1)) ∧ q4_get lv 2 = some (.int ((if s.2.2 < r2 then s.1 else s.2.1))) ∧ q4_get lv 3 = some (.int ((if s.2.2 < r2 then r2 else s.2.2))) ∧ q4_get lv 4 = some (.int (s.1)) := by
            by_cases c4 : s.2.2 < r2
            · replace h := qa_iff (q := 54) (qa_e rfl h) rfl (qa_F_le c4)
              replace h := qa_iload (n := 4) (q := 56) (qa_e rfl h) rfl g4
              obtain ⟨lv, h, g, T⟩ := qa_istore (n := 2) (q := 57) (qa_e rfl h) rfl
              replace g0 := T _ _ g0 (by decide) (Or.inr rfl)
              replace g1 := T _ _ g1 (by decide) (Or.inr rfl)
              replace g4 := T _ _ g4 (by decide) (Or.inr rfl)
              replace g5 := T _ _ g5 (by decide) (Or.inr rfl)
              have g2 := g
              clear g T
              replace h := qa_iload (n := 5) (q := 59) (qa_e rfl h) rfl g5
              obtain ⟨lv, h, g, T⟩ := qa_istore (n := 3) (q := 60) (qa_e rfl h) rfl
              replace g0 := T _ _ g0 (by decide) (Or.inr rfl)
              replace g1 := T _ _ g1 (by decide) (Or.inr rfl)
              replace g2 := T _ _ g2 (by decide) (Or.inr rfl)
              replace g4 := T _ _ g4 (by decide) (Or.inr rfl)
              have g3 := g
              clear g T
              exact ⟨lv, M, h, hM, es, g0, g1, (qa_gi1 c4 g2), (qa_gi1 c4 g3), g4⟩
            · replace h := qa_ift (q := 60) (qa_e rfl h) rfl (qa_T_le c4)
              exact ⟨lv, M, h, hM, es, g0, g1, (qa_gi0 c4 g2), (qa_gi0 c4 g3), g4⟩
          exact ⟨lv, M, h, hM, es, g0, g1, (qa_gi0 c3 g2), (qa_gi0 c3 g3), g4⟩
      obtain ⟨lv, h, g, T⟩ := qa_iinc (n := 4) (z := (1 : Int32)) (q := 63) (qa_e rfl h) rfl (by decide) g4
      replace g0 := T _ _ g0 (by decide) (Or.inr rfl)
      replace g1 := T _ _ g1 (by decide) (Or.inr rfl)
      replace g2 := T _ _ g2 (by decide) (Or.inr rfl)
      replace g3 := T _ _ g3 (by decide) (Or.inr rfl)
      replace g4 := g
      clear g T
      replace h := qa_goto (q := 22) (qa_e rfl h) rfl
      have e0 : mc_137_3_p22 N l1 σ s = .inl ((s.1 + (1 : Int32)), (if s.2.1 = (-9 : Int32) then s.1 else (if s.2.2 < r2 then s.1 else s.2.1)), (if s.2.1 = (-9 : Int32) then r2 else (if s.2.2 < r2 then r2 else s.2.2))) := by exact Eq.trans (if_pos c1) (Eq.trans (qa_ie er2) (rfl))
      rw [qa_whl e0]
      exact ih n hn (Nat.le_of_succ_le hF) ((s.1 + (1 : Int32)), (if s.2.1 = (-9 : Int32) then s.1 else (if s.2.2 < r2 then s.1 else s.2.1)), (if s.2.1 = (-9 : Int32) then r2 else (if s.2.2 < r2 then r2 else s.2.2))) _ _ hM es g0 g1 g2 g3 g4 h
    · replace h := qa_ift (q := 66) (qa_e rfl h) rfl (qa_T_ge c1)
      have e0 : mc_137_3_p22 N l1 σ s = .inr (s.1, s.2.1, s.2.2) := by exact Eq.trans (if_neg c1) (rfl)
      rw [qa_whr e0]
      exact ⟨_, _, q61_mono f F _ _ _ _ _ _ _ _ (Nat.le_of_succ_le hF) h, hM, es, g1, g2, g3⟩
/-- BuriedBySevens, loner, (I)I -/
noncomputable def ma_137_3 (N : Nat) (a1 : Int32) (σ : qa_S) : Int32 × qa_S :=
  if (ma_57 a1) = (0 : Int32) then
    qa_in ((ma_9_3 (-2 : Int32) σ)) fun r2 =>
    (r2.1, r2.2)
  else
    qa_in ((qa_wh (fun s => s) (mc_137_3_p22 N a1 σ) N ((0 : Int32), (-9 : Int32), (0 : Int32)))) fun r3 =>
    ((if a1 = (0 : Int32) then r3.2.1 else r3.2.2), σ)
theorem mb_137_3 {f N : Nat} (hN : f ≤ N) {M : q4_M} {r : Option Value × q4_M} {σ : qa_S} {a1 : Int32} (hM : qa_O M) (es : qa_s M = σ) (h : q4_run f 137 0 (lv_args 0 [.ref 3, .int (a1)]) [] M 0 0 = some r) : r.1 = some (.int ((ma_137_3 N a1 σ).1)) ∧ qa_O r.2 ∧ qa_s r.2 = (ma_137_3 N a1 σ).2 := by
  obtain ⟨lv, el⟩ : ∃ l, l = lv_args 0 [.ref 3, .int (a1)] := ⟨_, rfl⟩
  have g0 : q4_get lv 0 = some (.ref 3) := by rw [el]; rfl
  have g1 : q4_get lv 1 = some (.int (a1)) := by rw [el]; rfl
  rw [← el] at h
  clear el
  replace h := qa_iload (n := 1) (q := 1) (qa_e rfl h) rfl g1
  obtain ⟨M, h, hM, es⟩ := qa_c1 (y := 57) (as := [.int (a1)]) (rest := []) (i := .invokestatic 57) (q := 4) (qa_e rfl h) (Or.inr rfl) rfl rfl (by decide) rfl (fun r hc => mb_57 hM es hc)
  by_cases c1 : (ma_57 a1) = (0 : Int32)
  · replace h := qa_icf (q := 7) (qa_e rfl h) rfl (qa_F_ne c1)
    replace h := qa_aload (n := 0) (q := 8) (qa_e rfl h) rfl g0
    replace h := qa_push (z := (-2 : Int32)) (q := 10) (qa_e rfl h) rfl (by decide)
    obtain ⟨r2, er2⟩ : ∃ x, x = (ma_9_3 (-2 : Int32) σ) := ⟨_, rfl⟩
    obtain ⟨M, h, hM, es⟩ := qa_c1 (y := 9) (as := [.ref 3, .int ((-2 : Int32))]) (rest := []) (i := .invokevirtual 9) (q := 13) (qa_e rfl h) (Or.inl rfl) rfl rfl (by decide) rfl (fun r hc => mb_9_3 hM es hc)
    rw [← er2] at h es
    have er := qa_ri (qa_e rfl h)
    subst er
    have e0 : ma_137_3 N a1 σ = (r2.1, r2.2) := by exact Eq.trans (if_pos c1) (Eq.trans (qa_ie er2) (rfl))
    rw [e0]
    exact ⟨rfl, hM, es⟩
  · replace h := qa_ict (q := 14) (qa_e rfl h) rfl (qa_T_ne c1)
    replace h := qa_push (z := (-9 : Int32)) (q := 16) (qa_e rfl h) rfl (by decide)
    obtain ⟨lv, h, g, T⟩ := qa_istore (n := 2) (q := 17) (qa_e rfl h) rfl
    replace g0 := T _ _ g0 (by decide) (Or.inr rfl)
    replace g1 := T _ _ g1 (by decide) (Or.inr rfl)
    have g2 := g
    clear g T
    replace h := qa_push (z := (0 : Int32)) (q := 18) (qa_e rfl h) rfl (by decide)
    obtain ⟨lv, h, g, T⟩ := qa_istore (n := 3) (q := 19) (qa_e rfl h) rfl
    replace g0 := T _ _ g0 (by decide) (Or.inr rfl)
    replace g1 := T _ _ g1 (by decide) (Or.inr rfl)
    replace g2 := T _ _ g2 (by decide) (Or.inr rfl)
    have g3 := g
    clear g T
    replace h := qa_push (z := (0 : Int32)) (q := 20) (qa_e rfl h) rfl (by decide)
    obtain ⟨lv, h, g, T⟩ := qa_istore (n := 4) (q := 22) (qa_e rfl h) rfl
    replace g0 := T _ _ g0 (by decide) (Or.inr rfl)
    replace g1 := T _ _ g1 (by decide) (Or.inr rfl)
    replace g2 := T _ _ g2 (by decide) (Or.inr rfl)
    replace g3 := T _ _ g3 (by decide) (Or.inr rfl)
    have g4 := g
    clear g T
    obtain ⟨r3, er3⟩ : ∃ x, x = (qa_wh (fun s => s) (mc_137_3_p22 N a1 σ) N ((0 : Int32), (-9 : Int32), (0 : Int32))) := ⟨_, rfl⟩
    have L := md_137_3_p22 (l1 := a1) (σ := σ) (F := f) (N := N) (r := r) hN f N hN (Nat.le_refl f) ((0 : Int32), (-9 : Int32), (0 : Int32)) _ _ hM es g0 g1 g2 g3 g4 h
    rw [← er3] at L
    obtain ⟨lv, M, h, hM, es, g1, g2, g3⟩ := L
    replace h := qa_iload (n := 1) (q := 67) (qa_e rfl h) rfl g1
    obtain ⟨lv, M, h, hM, es⟩ : ∃ lv M, q4_run f 137 75 lv [.int ((if a1 = (0 : Int32) then r3.2.1 else r3.2.2))] M 0 0 = some r ∧ qa_O M ∧ qa_s M = σ := by
      by_cases c4 : a1 = (0 : Int32)
      · replace h := qa_icf (q := 70) (qa_e rfl h) rfl (qa_F_ne c4)
        replace h := qa_iload (n := 2) (q := 71) (qa_e rfl h) rfl g2
        replace h := qa_goto (q := 75) (qa_e rfl h) rfl
        exact ⟨lv, M, (qa_hi1 c4 h), hM, es⟩
      · replace h := qa_ict (q := 74) (qa_e rfl h) rfl (qa_T_ne c4)
        replace h := qa_iload (n := 3) (q := 75) (qa_e rfl h) rfl g3
        exact ⟨lv, M, (qa_hi0 c4 h), hM, es⟩
    have er := qa_ri (qa_e rfl h)
    subst er
    have e0 : ma_137_3 N a1 σ = ((if a1 = (0 : Int32) then r3.2.1 else r3.2.2), σ) := by exact Eq.trans (if_neg c1) (Eq.trans (qa_ie er3) (rfl))
    rw [e0]
    exact ⟨rfl, hM, es⟩
noncomputable def mc_139_3_p25 (N : Nat) (l1 : Int32) (σ : qa_S) (s : Int32 × Int32 × Int32) : (Int32 × Int32 × Int32) ⊕ (Int32 × Int32 × Int32) :=
  if s.1 < (σ 4 0) then
    qa_in ((ma_112_4 N l1 s.1 σ)) fun r2 =>
    .inl ((s.1 + (1 : Int32)), (if s.1 = l1 then s.2.1 else (if s.2.1 = (-9 : Int32) then s.1 else (if r2 < s.2.2 then s.1 else s.2.1))), (if s.1 = l1 then s.2.2 else (if s.2.1 = (-9 : Int32) then r2 else (if r2 < s.2.2 then r2 else s.2.2))))
  else
    .inr (s.1, s.2.1, s.2.2)
theorem md_139_3_p25 {N F : Nat} {r : Option Value × q4_M} {l1 : Int32} {σ : qa_S} (hN : F ≤ N) : ∀ f n, f ≤ n → f ≤ F → ∀ (s : Int32 × Int32 × Int32) (lv : List (Nat × Value)) (M : q4_M), qa_O M → qa_s M = σ → q4_get lv 0 = some (.ref 3) → q4_get lv 1 = some (.int (l1)) → q4_get lv 2 = some (.int (s.2.1)) → q4_get lv 3 = some (.int (s.2.2)) → q4_get lv 4 = some (.int (s.1)) → q4_run f 139 25 lv [] M 0 0 = some r → ∃ lv M, q4_run F 139 79 lv [] M 0 0 = some r ∧ qa_O M ∧ qa_s M = σ ∧ q4_get lv 2 = some (.int ((qa_wh (fun s => s) (mc_139_3_p25 N l1 σ) n s).2.1)) := by
  intro f
  induction f with
  | zero => intro n _ _ s lv M hM es _ _ _ _ _ h; cases h
  | succ f ih =>
    intro n hn hF s lv M hM es g0 g1 g2 g3 g4 h
    obtain ⟨n, rfl⟩ : ∃ n1, n = n1 + 1 := ⟨n - 1, by omega⟩
    replace hn : f ≤ n := Nat.le_of_succ_le_succ hn
    have hN := Nat.le_trans (Nat.le_of_succ_le hF) hN
    replace h := qa_iload (n := 4) (q := 27) (qa_d rfl h) rfl g4
    replace h := qa_aload (n := 0) (q := 28) (qa_e rfl h) rfl g0
    replace h := qa_gr (b := 4) (j := 0) (q := 31) (qa_e rfl h) rfl hM rfl (by decide)
    replace h := qa_gi (j := 0) (q := 34) (qa_e rfl h) rfl hM es rfl (by decide)
    by_cases c1 : s.1 < (σ 4 0)
    · replace h := qa_iff (q := 37) (qa_e rfl h) rfl (qa_F_ge c1)
      replace h := qa_aload (n := 0) (q := 38) (qa_e rfl h) rfl g0
      replace h := qa_gr (b := 4) (j := 0) (q := 41) (qa_e rfl h) rfl hM rfl (by decide)
      replace h := qa_iload (n := 1) (q := 42) (qa_e rfl h) rfl g1
      replace h := qa_iload (n := 4) (q := 44) (qa_e rfl h) rfl g4
      obtain ⟨r2, er2⟩ : ∃ x, x = (ma_112_4 N l1 s.1 σ) := ⟨_, rfl⟩
      obtain ⟨M, h, hM, es⟩ := qa_c1 (y := 112) (as := [.ref 4, .int (l1), .int (s.1)]) (rest := []) (i := .invokevirtual 112) (q := 47) (qa_e rfl h) (Or.inl rfl) rfl rfl (by decide) rfl (fun r hc => mb_112_4 hN hM es hc)
      rw [← er2] at h
      obtain ⟨lv, h, g, T⟩ := qa_istore (n := 5) (q := 49) (qa_e rfl h) rfl
      replace g0 := T _ _ g0 (by decide) (Or.inr rfl)
      replace g1 := T _ _ g1 (by decide) (Or.inr rfl)
      replace g2 := T _ _ g2 (by decide) (Or.inr rfl)
      replace g3 := T _ _ g3 (by decide) (Or.inr rfl)
      replace g4 := T _ _ g4 (by decide) (Or.inr rfl)
      have g5 := g
      clear g T
      replace h := qa_iload (n := 4) (q := 51) (qa_e rfl h) rfl g4
      replace h := qa_iload (n := 1) (q := 52) (qa_e rfl h) rfl g1
      obtain ⟨lv, M, h, hM, es, g0, g1, g2, g3, g4⟩ : ∃ lv M, q4_run f 139 73 lv [] M 0 0 = some r ∧ qa_O M ∧ qa_s M = σ ∧ q4_get lv 0 = some (.ref 3) ∧ q4_get lv 1 = some (.int (l1)) ∧ q4_get lv 2 = some (.int ((if s.1 = l1 then s.2.1 else (if s.2.1 = (-9 : Int32) then s.1 else (if r2 < s.2.2 then s.1 else s.2.1))))) ∧ q4_get lv 3 = some (.int ((if s.1 = l1 then s.2.2 else (if s.2.1 = (-9 : Int32) then r2 else (if r2 < s.2.2 then r2 else s.2.2))))) ∧ q4_get lv 4 = some (.int (s.1)) := by
        by_cases c3 : s.1 = l1
        · replace h := qa_ift (q := 73) (qa_e rfl h) rfl (qa_T_eq c3)
          exact ⟨lv, M, h, hM, es, g0, g1, (qa_gi1 c3 g2), (qa_gi1 c3 g3), g4⟩
        · replace h := qa_iff (q := 55) (qa_e rfl h) rfl (qa_F_eq c3)
          replace h := qa_iload (n := 2) (q := 56) (qa_e rfl h) rfl g2
          replace h := qa_push (z := (-9 : Int32)) (q := 58) (qa_e rfl h) rfl (by decide)
          obtain ⟨lv, M, h, hM, es, g0, g1, g2, g3, g4⟩ : ∃ lv M, q4_run f 139 73 lv [] M 0 0 = some r ∧ qa_O M ∧ qa_s M = σ ∧ q4_get lv 0 = some (.ref 3) ∧ q4_get lv 1 = some (.int (l1)) ∧ q4_get lv 2 = some (.int ((if s.2.1 = (-9 : Int32) then s.1 else (if r2 < s.2.2 then s.1 else s.2.1)))) ∧ q4_get lv 3 = some (.int ((if s.2.1 = (-9 : Int32) then r2 else (if r2 < s.2.2 then r2 else s.2.2)))) ∧ q4_get lv 4 = some (.int (s.1)) := by
            by_cases c4 : s.2.1 = (-9 : Int32)
            · replace h := qa_ift (q := 67) (qa_e rfl h) rfl (qa_T_eq c4)
              replace h := qa_iload (n := 4) (q := 69) (qa_e rfl h) rfl g4
              obtain ⟨lv, h, g, T⟩ := qa_istore (n := 2) (q := 70) (qa_e rfl h) rfl
              replace g0 := T _ _ g0 (by decide) (Or.inr rfl)
              replace g1 := T _ _ g1 (by decide) (Or.inr rfl)
              replace g4 := T _ _ g4 (by decide) (Or.inr rfl)
              replace g5 := T _ _ g5 (by decide) (Or.inr rfl)
              have g2 := g
              clear g T
              replace h := qa_iload (n := 5) (q := 72) (qa_e rfl h) rfl g5
              obtain ⟨lv, h, g, T⟩ := qa_istore (n := 3) (q := 73) (qa_e rfl h) rfl
              replace g0 := T _ _ g0 (by decide) (Or.inr rfl)
              replace g1 := T _ _ g1 (by decide) (Or.inr rfl)
              replace g2 := T _ _ g2 (by decide) (Or.inr rfl)
              replace g4 := T _ _ g4 (by decide) (Or.inr rfl)
              have g3 := g
              clear g T
              exact ⟨lv, M, h, hM, es, g0, g1, (qa_gi1 c4 g2), (qa_gi1 c4 g3), g4⟩
            · replace h := qa_iff (q := 61) (qa_e rfl h) rfl (qa_F_eq c4)
              replace h := qa_iload (n := 5) (q := 63) (qa_e rfl h) rfl g5
              replace h := qa_iload (n := 3) (q := 64) (qa_e rfl h) rfl g3
              obtain ⟨lv, M, h, hM, es, g0, g1, g2, g3, g4⟩ : ∃ lv M, q4_run f 139 73 lv [] M 0 0 = some r ∧ qa_O M ∧ qa_s M = σ ∧ q4_get lv 0 = some (.ref 3) ∧ q4_get lv 1 = some (.int (l1)) ∧ q4_get lv 2 = some (.int ((if r2 < s.2.2 then s.1 else s.2.1))) ∧ q4_get lv 3 = some (.int ((if r2 < s.2.2 then r2 else s.2.2))) ∧ q4_get lv 4 = some (.int (s.1)) := by
                by_cases c5 : r2 < s.2.2
                · replace h := qa_iff (q := 67) (qa_e rfl h) rfl (qa_F_ge c5)
                  replace h := qa_iload (n := 4) (q := 69) (qa_e rfl h) rfl g4
                  obtain ⟨lv, h, g, T⟩ := qa_istore (n := 2) (q := 70) (qa_e rfl h) rfl
                  replace g0 := T _ _ g0 (by decide) (Or.inr rfl)
                  replace g1 := T _ _ g1 (by decide) (Or.inr rfl)
                  replace g4 := T _ _ g4 (by decide) (Or.inr rfl)
                  replace g5 := T _ _ g5 (by decide) (Or.inr rfl)
                  have g2 := g
                  clear g T
                  replace h := qa_iload (n := 5) (q := 72) (qa_e rfl h) rfl g5
                  obtain ⟨lv, h, g, T⟩ := qa_istore (n := 3) (q := 73) (qa_e rfl h) rfl
                  replace g0 := T _ _ g0 (by decide) (Or.inr rfl)
                  replace g1 := T _ _ g1 (by decide) (Or.inr rfl)
                  replace g2 := T _ _ g2 (by decide) (Or.inr rfl)
                  replace g4 := T _ _ g4 (by decide) (Or.inr rfl)
                  have g3 := g
                  clear g T
                  exact ⟨lv, M, h, hM, es, g0, g1, (qa_gi1 c5 g2), (qa_gi1 c5 g3), g4⟩
                · replace h := qa_ift (q := 73) (qa_e rfl h) rfl (qa_T_ge c5)
                  exact ⟨lv, M, h, hM, es, g0, g1, (qa_gi0 c5 g2), (qa_gi0 c5 g3), g4⟩
              exact ⟨lv, M, h, hM, es, g0, g1, (qa_gi0 c4 g2), (qa_gi0 c4 g3), g4⟩
          exact ⟨lv, M, h, hM, es, g0, g1, (qa_gi0 c3 g2), (qa_gi0 c3 g3), g4⟩
      obtain ⟨lv, h, g, T⟩ := qa_iinc (n := 4) (z := (1 : Int32)) (q := 76) (qa_e rfl h) rfl (by decide) g4
      replace g0 := T _ _ g0 (by decide) (Or.inr rfl)
      replace g1 := T _ _ g1 (by decide) (Or.inr rfl)
      replace g2 := T _ _ g2 (by decide) (Or.inr rfl)
      replace g3 := T _ _ g3 (by decide) (Or.inr rfl)
      replace g4 := g
      clear g T
      replace h := qa_goto (q := 25) (qa_e rfl h) rfl
      have e0 : mc_139_3_p25 N l1 σ s = .inl ((s.1 + (1 : Int32)), (if s.1 = l1 then s.2.1 else (if s.2.1 = (-9 : Int32) then s.1 else (if r2 < s.2.2 then s.1 else s.2.1))), (if s.1 = l1 then s.2.2 else (if s.2.1 = (-9 : Int32) then r2 else (if r2 < s.2.2 then r2 else s.2.2)))) := by exact Eq.trans (if_pos c1) (Eq.trans (qa_ie er2) (rfl))
      rw [qa_whl e0]
      exact ih n hn (Nat.le_of_succ_le hF) ((s.1 + (1 : Int32)), (if s.1 = l1 then s.2.1 else (if s.2.1 = (-9 : Int32) then s.1 else (if r2 < s.2.2 then s.1 else s.2.1))), (if s.1 = l1 then s.2.2 else (if s.2.1 = (-9 : Int32) then r2 else (if r2 < s.2.2 then r2 else s.2.2)))) _ _ hM es g0 g1 g2 g3 g4 h
    · replace h := qa_ift (q := 79) (qa_e rfl h) rfl (qa_T_ge c1)
      have e0 : mc_139_3_p25 N l1 σ s = .inr (s.1, s.2.1, s.2.2) := by exact Eq.trans (if_neg c1) (rfl)
      rw [qa_whr e0]
      exact ⟨_, _, q61_mono f F _ _ _ _ _ _ _ _ (Nat.le_of_succ_le hF) h, hM, es, g2⟩
/-- BuriedBySevens, twin, (I)I -/
noncomputable def ma_139_3 (N : Nat) (a1 : Int32) (σ : qa_S) : Int32 × qa_S :=
  if (ma_22_4 a1 σ) = (0 : Int32) then
    qa_in ((ma_9_3 (-1 : Int32) σ)) fun r2 =>
    (r2.1, r2.2)
  else
    qa_in ((qa_wh (fun s => s) (mc_139_3_p25 N a1 σ) N ((0 : Int32), (-9 : Int32), (0 : Int32)))) fun r3 =>
    (r3.2.1, σ)
theorem mb_139_3 {f N : Nat} (hN : f ≤ N) {M : q4_M} {r : Option Value × q4_M} {σ : qa_S} {a1 : Int32} (hM : qa_O M) (es : qa_s M = σ) (h : q4_run f 139 0 (lv_args 0 [.ref 3, .int (a1)]) [] M 0 0 = some r) : r.1 = some (.int ((ma_139_3 N a1 σ).1)) ∧ qa_O r.2 ∧ qa_s r.2 = (ma_139_3 N a1 σ).2 := by
  obtain ⟨lv, el⟩ : ∃ l, l = lv_args 0 [.ref 3, .int (a1)] := ⟨_, rfl⟩
  have g0 : q4_get lv 0 = some (.ref 3) := by rw [el]; rfl
  have g1 : q4_get lv 1 = some (.int (a1)) := by rw [el]; rfl
  rw [← el] at h
  clear el
  replace h := qa_aload (n := 0) (q := 1) (qa_e rfl h) rfl g0
  replace h := qa_gr (b := 4) (j := 0) (q := 4) (qa_e rfl h) rfl hM rfl (by decide)
  replace h := qa_iload (n := 1) (q := 5) (qa_e rfl h) rfl g1
  obtain ⟨M, h, hM, es⟩ := qa_c1 (y := 22) (as := [.ref 4, .int (a1)]) (rest := []) (i := .invokevirtual 22) (q := 8) (qa_e rfl h) (Or.inl rfl) rfl rfl (by decide) rfl (fun r hc => mb_22_4 hM es hc)
  by_cases c1 : (ma_22_4 a1 σ) = (0 : Int32)
  · replace h := qa_icf (q := 11) (qa_e rfl h) rfl (qa_F_ne c1)
    replace h := qa_aload (n := 0) (q := 12) (qa_e rfl h) rfl g0
    replace h := qa_push (z := (-1 : Int32)) (q := 13) (qa_e rfl h) rfl (by decide)
    obtain ⟨r2, er2⟩ : ∃ x, x = (ma_9_3 (-1 : Int32) σ) := ⟨_, rfl⟩
    obtain ⟨M, h, hM, es⟩ := qa_c1 (y := 9) (as := [.ref 3, .int ((-1 : Int32))]) (rest := []) (i := .invokevirtual 9) (q := 16) (qa_e rfl h) (Or.inl rfl) rfl rfl (by decide) rfl (fun r hc => mb_9_3 hM es hc)
    rw [← er2] at h es
    have er := qa_ri (qa_e rfl h)
    subst er
    have e0 : ma_139_3 N a1 σ = (r2.1, r2.2) := by exact Eq.trans (if_pos c1) (Eq.trans (qa_ie er2) (rfl))
    rw [e0]
    exact ⟨rfl, hM, es⟩
  · replace h := qa_ict (q := 17) (qa_e rfl h) rfl (qa_T_ne c1)
    replace h := qa_push (z := (-9 : Int32)) (q := 19) (qa_e rfl h) rfl (by decide)
    obtain ⟨lv, h, g, T⟩ := qa_istore (n := 2) (q := 20) (qa_e rfl h) rfl
    replace g0 := T _ _ g0 (by decide) (Or.inr rfl)
    replace g1 := T _ _ g1 (by decide) (Or.inr rfl)
    have g2 := g
    clear g T
    replace h := qa_push (z := (0 : Int32)) (q := 21) (qa_e rfl h) rfl (by decide)
    obtain ⟨lv, h, g, T⟩ := qa_istore (n := 3) (q := 22) (qa_e rfl h) rfl
    replace g0 := T _ _ g0 (by decide) (Or.inr rfl)
    replace g1 := T _ _ g1 (by decide) (Or.inr rfl)
    replace g2 := T _ _ g2 (by decide) (Or.inr rfl)
    have g3 := g
    clear g T
    replace h := qa_push (z := (0 : Int32)) (q := 23) (qa_e rfl h) rfl (by decide)
    obtain ⟨lv, h, g, T⟩ := qa_istore (n := 4) (q := 25) (qa_e rfl h) rfl
    replace g0 := T _ _ g0 (by decide) (Or.inr rfl)
    replace g1 := T _ _ g1 (by decide) (Or.inr rfl)
    replace g2 := T _ _ g2 (by decide) (Or.inr rfl)
    replace g3 := T _ _ g3 (by decide) (Or.inr rfl)
    have g4 := g
    clear g T
    obtain ⟨r3, er3⟩ : ∃ x, x = (qa_wh (fun s => s) (mc_139_3_p25 N a1 σ) N ((0 : Int32), (-9 : Int32), (0 : Int32))) := ⟨_, rfl⟩
    have L := md_139_3_p25 (l1 := a1) (σ := σ) (F := f) (N := N) (r := r) hN f N hN (Nat.le_refl f) ((0 : Int32), (-9 : Int32), (0 : Int32)) _ _ hM es g0 g1 g2 g3 g4 h
    rw [← er3] at L
    obtain ⟨lv, M, h, hM, es, g2⟩ := L
    replace h := qa_iload (n := 2) (q := 80) (qa_e rfl h) rfl g2
    have er := qa_ri (qa_e rfl h)
    subst er
    have e0 : ma_139_3 N a1 σ = (r3.2.1, σ) := by exact Eq.trans (if_neg c1) (Eq.trans (qa_ie er3) (rfl))
    rw [e0]
    exact ⟨rfl, hM, es⟩
/-- BuriedBySevens, row, (I)I -/
noncomputable def ma_140_3 (a1 : Int32) (σ : qa_S) : Int32 × qa_S :=
  if a1 < (0 : Int32) then
    qa_in ((ma_9_3 (-4 : Int32) σ)) fun r2 =>
    (r2.1, r2.2)
  else
    if (99 : Int32) < a1 then
      qa_in ((ma_9_3 (-6 : Int32) σ)) fun r4 =>
      (r4.1, r4.2)
    else
      if (σ 3 16) < (12 : Int32) then
        qa_in (qa_u σ 92 (σ 3 16).toNatClampNeg a1) fun m6 =>
        qa_in (qa_u m6 3 16 ((m6 3 16) + (1 : Int32))) fun m7 =>
        ((m7 3 16), m7)
      else
        qa_in ((ma_9_3 (-6 : Int32) σ)) fun r8 =>
        (r8.1, r8.2)
theorem mb_140_3 {f : Nat} {M : q4_M} {r : Option Value × q4_M} {σ : qa_S} {a1 : Int32} (hM : qa_O M) (es : qa_s M = σ) (h : q4_run f 140 0 (lv_args 0 [.ref 3, .int (a1)]) [] M 0 0 = some r) : r.1 = some (.int ((ma_140_3 a1 σ).1)) ∧ qa_O r.2 ∧ qa_s r.2 = (ma_140_3 a1 σ).2 := by
  obtain ⟨lv, el⟩ : ∃ l, l = lv_args 0 [.ref 3, .int (a1)] := ⟨_, rfl⟩
  have g0 : q4_get lv 0 = some (.ref 3) := by rw [el]; rfl
  have g1 : q4_get lv 1 = some (.int (a1)) := by rw [el]; rfl
  rw [← el] at h
  clear el
  replace h := qa_iload (n := 1) (q := 1) (qa_e rfl h) rfl g1
  by_cases c1 : a1 < (0 : Int32)
  · replace h := qa_icf (q := 4) (qa_e rfl h) rfl (qa_F_ge c1)
    replace h := qa_aload (n := 0) (q := 5) (qa_e rfl h) rfl g0
    replace h := qa_push (z := (-4 : Int32)) (q := 7) (qa_e rfl h) rfl (by decide)
    obtain ⟨r2, er2⟩ : ∃ x, x = (ma_9_3 (-4 : Int32) σ) := ⟨_, rfl⟩
    obtain ⟨M, h, hM, es⟩ := qa_c1 (y := 9) (as := [.ref 3, .int ((-4 : Int32))]) (rest := []) (i := .invokevirtual 9) (q := 10) (qa_e rfl h) (Or.inl rfl) rfl rfl (by decide) rfl (fun r hc => mb_9_3 hM es hc)
    rw [← er2] at h es
    have er := qa_ri (qa_e rfl h)
    subst er
    have e0 : ma_140_3 a1 σ = (r2.1, r2.2) := by exact Eq.trans (if_pos c1) (Eq.trans (qa_ie er2) (rfl))
    rw [e0]
    exact ⟨rfl, hM, es⟩
  · replace h := qa_ict (q := 11) (qa_e rfl h) rfl (qa_T_ge c1)
    replace h := qa_iload (n := 1) (q := 12) (qa_e rfl h) rfl g1
    replace h := qa_push (z := (99 : Int32)) (q := 14) (qa_e rfl h) rfl (by decide)
    by_cases c3 : (99 : Int32) < a1
    · replace h := qa_ift (q := 26) (qa_e rfl h) rfl (qa_T_gt c3)
      replace h := qa_aload (n := 0) (q := 27) (qa_e rfl h) rfl g0
      replace h := qa_push (z := (-6 : Int32)) (q := 29) (qa_e rfl h) rfl (by decide)
      obtain ⟨r4, er4⟩ : ∃ x, x = (ma_9_3 (-6 : Int32) σ) := ⟨_, rfl⟩
      obtain ⟨M, h, hM, es⟩ := qa_c1 (y := 9) (as := [.ref 3, .int ((-6 : Int32))]) (rest := []) (i := .invokevirtual 9) (q := 32) (qa_e rfl h) (Or.inl rfl) rfl rfl (by decide) rfl (fun r hc => mb_9_3 hM es hc)
      rw [← er4] at h es
      have er := qa_ri (qa_e rfl h)
      subst er
      have e0 : ma_140_3 a1 σ = (r4.1, r4.2) := by exact Eq.trans (if_neg c1) (Eq.trans (if_pos c3) (Eq.trans (qa_ie er4) (rfl)))
      rw [e0]
      exact ⟨rfl, hM, es⟩
    · replace h := qa_iff (q := 17) (qa_e rfl h) rfl (qa_F_gt c3)
      replace h := qa_aload (n := 0) (q := 18) (qa_e rfl h) rfl g0
      replace h := qa_gi (j := 16) (q := 21) (qa_e rfl h) rfl hM es rfl (by decide)
      replace h := qa_push (z := (12 : Int32)) (q := 23) (qa_e rfl h) rfl (by decide)
      by_cases c5 : (σ 3 16) < (12 : Int32)
      · replace h := qa_ift (q := 33) (qa_e rfl h) rfl (qa_T_lt c5)
        replace h := qa_aload (n := 0) (q := 34) (qa_e rfl h) rfl g0
        replace h := qa_gr (b := 92) (j := 9) (q := 37) (qa_e rfl h) rfl hM rfl (by decide)
        replace h := qa_aload (n := 0) (q := 38) (qa_e rfl h) rfl g0
        replace h := qa_gi (j := 16) (q := 41) (qa_e rfl h) rfl hM es rfl (by decide)
        replace h := qa_iload (n := 1) (q := 42) (qa_e rfl h) rfl g1
        obtain ⟨m6, em6⟩ : ∃ x, x = qa_u σ 92 (σ 3 16).toNatClampNeg a1 := ⟨_, rfl⟩
        obtain ⟨M, h, hM, es⟩ := qa_iastore (jn := (σ 3 16).toNatClampNeg) (q := 43) (qa_e rfl h) rfl hM es rfl
        rw [← em6] at es
        replace h := qa_aload (n := 0) (q := 44) (qa_e rfl h) rfl g0
        replace h := qa_dupa (q := 45) (qa_e rfl h) rfl
        replace h := qa_gi (j := 16) (q := 48) (qa_e rfl h) rfl hM es rfl (by decide)
        replace h := qa_push (z := (1 : Int32)) (q := 49) (qa_e rfl h) rfl (by decide)
        replace h := qa_iadd (q := 50) (qa_e rfl h) rfl
        obtain ⟨m7, em7⟩ : ∃ x, x = qa_u m6 3 16 ((m6 3 16) + (1 : Int32)) := ⟨_, rfl⟩
        obtain ⟨M, h, hM, es⟩ := qa_pf (j := 16) (q := 53) (qa_e rfl h) rfl hM es rfl (by decide)
        rw [← em7] at es
        replace h := qa_aload (n := 0) (q := 54) (qa_e rfl h) rfl g0
        replace h := qa_gi (j := 16) (q := 57) (qa_e rfl h) rfl hM es rfl (by decide)
        have er := qa_ri (qa_e rfl h)
        subst er
        have e0 : ma_140_3 a1 σ = ((m7 3 16), m7) := by exact Eq.trans (if_neg c1) (Eq.trans (if_neg c3) (Eq.trans (if_pos c5) (Eq.trans (qa_ie em6) (Eq.trans (qa_ie em7) (rfl)))))
        rw [e0]
        exact ⟨rfl, hM, es⟩
      · replace h := qa_iff (q := 26) (qa_e rfl h) rfl (qa_F_lt c5)
        replace h := qa_aload (n := 0) (q := 27) (qa_e rfl h) rfl g0
        replace h := qa_push (z := (-6 : Int32)) (q := 29) (qa_e rfl h) rfl (by decide)
        obtain ⟨r8, er8⟩ : ∃ x, x = (ma_9_3 (-6 : Int32) σ) := ⟨_, rfl⟩
        obtain ⟨M, h, hM, es⟩ := qa_c1 (y := 9) (as := [.ref 3, .int ((-6 : Int32))]) (rest := []) (i := .invokevirtual 9) (q := 32) (qa_e rfl h) (Or.inl rfl) rfl rfl (by decide) rfl (fun r hc => mb_9_3 hM es hc)
        rw [← er8] at h es
        have er := qa_ri (qa_e rfl h)
        subst er
        have e0 : ma_140_3 a1 σ = (r8.1, r8.2) := by exact Eq.trans (if_neg c1) (Eq.trans (if_neg c3) (Eq.trans (if_neg c5) (Eq.trans (qa_ie er8) (rfl))))
        rw [e0]
        exact ⟨rfl, hM, es⟩
noncomputable def mc_141_3_p18 (N : Nat) (l1 : Int32) (s : Int32 × Int32 × qa_S) : (Int32 × Int32 × qa_S) ⊕ (Int32 × Int32 × qa_S) :=
  if s.1 < (s.2.2 3 16) then
    if s.2.1 = (-9 : Int32) then
      qa_in ((ma_45_3 N (s.1 - (1 : Int32)) l1 s.2.2)) fun r4 =>
      qa_in ((if (s.2.2 4 0) < s.1 then s.2.2 else r4.2)) fun m6 =>
      .inl ((s.1 + (1 : Int32)), (if (s.2.2 4 0) < s.1 then s.1 else (if (s.2.2 92 s.1.toNatClampNeg) = r4.1 then s.2.1 else s.1)), m6)
    else
      .inr (s.1, s.2.1, s.2.2)
  else
    .inr (s.1, s.2.1, s.2.2)
theorem md_141_3_p18 {N F : Nat} {r : Option Value × q4_M} {l1 : Int32} (hN : F ≤ N) : ∀ f n, f ≤ n → f ≤ F → ∀ (s : Int32 × Int32 × qa_S) (lv : List (Nat × Value)) (M : q4_M), qa_O M → qa_s M = s.2.2 → q4_get lv 0 = some (.ref 3) → q4_get lv 1 = some (.int (l1)) → q4_get lv 2 = some (.int (s.2.1)) → q4_get lv 3 = some (.int (s.1)) → q4_run f 141 18 lv [] M 0 0 = some r → ∃ lv M, q4_run F 141 68 lv [] M 0 0 = some r ∧ qa_O M ∧ qa_s M = (qa_wh (fun s => s) (mc_141_3_p18 N l1) n s).2.2 ∧ q4_get lv 0 = some (.ref 3) ∧ q4_get lv 2 = some (.int ((qa_wh (fun s => s) (mc_141_3_p18 N l1) n s).2.1)) := by
  intro f
  induction f with
  | zero => intro n _ _ s lv M hM es _ _ _ _ h; cases h
  | succ f ih =>
    intro n hn hF s lv M hM es g0 g1 g2 g3 h
    obtain ⟨n, rfl⟩ : ∃ n1, n = n1 + 1 := ⟨n - 1, by omega⟩
    replace hn : f ≤ n := Nat.le_of_succ_le_succ hn
    have hN := Nat.le_trans (Nat.le_of_succ_le hF) hN
    replace h := qa_iload (n := 3) (q := 19) (qa_d rfl h) rfl g3
    replace h := qa_aload (n := 0) (q := 20) (qa_e rfl h) rfl g0
    replace h := qa_gi (j := 16) (q := 23) (qa_e rfl h) rfl hM es rfl (by decide)
    by_cases c1 : s.1 < (s.2.2 3 16)
    · replace h := qa_iff (q := 26) (qa_e rfl h) rfl (qa_F_ge c1)
      replace h := qa_iload (n := 2) (q := 27) (qa_e rfl h) rfl g2
      replace h := qa_push (z := (-9 : Int32)) (q := 29) (qa_e rfl h) rfl (by decide)
      by_cases c2 : s.2.1 = (-9 : Int32)
      · replace h := qa_iff (q := 32) (qa_e rfl h) rfl (qa_F_ne c2)
        replace h := qa_iload (n := 3) (q := 33) (qa_e rfl h) rfl g3
        replace h := qa_aload (n := 0) (q := 34) (qa_e rfl h) rfl g0
        replace h := qa_gr (b := 4) (j := 0) (q := 37) (qa_e rfl h) rfl hM rfl (by decide)
        replace h := qa_gi (j := 0) (q := 40) (qa_e rfl h) rfl hM es rfl (by decide)
        obtain ⟨r4, er4⟩ : ∃ x, x = (ma_45_3 N (s.1 - (1 : Int32)) l1 s.2.2) := ⟨_, rfl⟩
        obtain ⟨m6, em6⟩ : ∃ x, x = (if (s.2.2 4 0) < s.1 then s.2.2 else r4.2) := ⟨_, rfl⟩
        obtain ⟨lv, M, h, hM, es, g0, g1, g2, g3⟩ : ∃ lv M, q4_run f 141 62 lv [] M 0 0 = some r ∧ qa_O M ∧ qa_s M = m6 ∧ q4_get lv 0 = some (.ref 3) ∧ q4_get lv 1 = some (.int (l1)) ∧ q4_get lv 2 = some (.int ((if (s.2.2 4 0) < s.1 then s.1 else (if (s.2.2 92 s.1.toNatClampNeg) = r4.1 then s.2.1 else s.1)))) ∧ q4_get lv 3 = some (.int (s.1)) := by
          by_cases c3 : (s.2.2 4 0) < s.1
          · replace h := qa_ift (q := 60) (qa_e rfl h) rfl (qa_T_gt c3)
            replace h := qa_iload (n := 3) (q := 61) (qa_e rfl h) rfl g3
            obtain ⟨lv, h, g, T⟩ := qa_istore (n := 2) (q := 62) (qa_e rfl h) rfl
            replace g0 := T _ _ g0 (by decide) (Or.inr rfl)
            replace g1 := T _ _ g1 (by decide) (Or.inr rfl)
            replace g3 := T _ _ g3 (by decide) (Or.inr rfl)
            have g2 := g
            clear g T
            exact ⟨lv, M, h, hM, ((qa_ms1 c3 es).trans em6.symm), g0, g1, (qa_gi1 c3 g2), g3⟩
          · replace h := qa_iff (q := 43) (qa_e rfl h) rfl (qa_F_gt c3)
            replace h := qa_aload (n := 0) (q := 44) (qa_e rfl h) rfl g0
            replace h := qa_gr (b := 92) (j := 9) (q := 47) (qa_e rfl h) rfl hM rfl (by decide)
            replace h := qa_iload (n := 3) (q := 48) (qa_e rfl h) rfl g3
            replace h := qa_iaload (jn := s.1.toNatClampNeg) (q := 49) (qa_e rfl h) rfl hM es rfl
            replace h := qa_aload (n := 0) (q := 50) (qa_e rfl h) rfl g0
            replace h := qa_iload (n := 3) (q := 51) (qa_e rfl h) rfl g3
            replace h := qa_push (z := (1 : Int32)) (q := 52) (qa_e rfl h) rfl (by decide)
            replace h := qa_isub (q := 53) (qa_e rfl h) rfl
            replace h := qa_iload (n := 1) (q := 54) (qa_e rfl h) rfl g1
            obtain ⟨M, h, hM, es⟩ := qa_c1 (y := 45) (as := [.ref 3, .int ((s.1 - (1 : Int32))), .int (l1)]) (rest := [.int ((s.2.2 92 s.1.toNatClampNeg))]) (i := .invokevirtual 45) (q := 57) (qa_e rfl h) (Or.inl rfl) rfl rfl (by decide) rfl (fun r hc => mb_45_3 hN hM es hc)
            rw [← er4] at h es
            obtain ⟨lv, M, h, hM, es, g0, g1, g2, g3⟩ : ∃ lv M, q4_run f 141 62 lv [] M 0 0 = some r ∧ qa_O M ∧ qa_s M = r4.2 ∧ q4_get lv 0 = some (.ref 3) ∧ q4_get lv 1 = some (.int (l1)) ∧ q4_get lv 2 = some (.int ((if (s.2.2 92 s.1.toNatClampNeg) = r4.1 then s.2.1 else s.1))) ∧ q4_get lv 3 = some (.int (s.1)) := by
              by_cases c5 : (s.2.2 92 s.1.toNatClampNeg) = r4.1
              · replace h := qa_ift (q := 62) (qa_e rfl h) rfl (qa_T_eq c5)
                exact ⟨lv, M, h, hM, es, g0, g1, (qa_gi1 c5 g2), g3⟩
              · replace h := qa_iff (q := 60) (qa_e rfl h) rfl (qa_F_eq c5)
                replace h := qa_iload (n := 3) (q := 61) (qa_e rfl h) rfl g3
                obtain ⟨lv, h, g, T⟩ := qa_istore (n := 2) (q := 62) (qa_e rfl h) rfl
                replace g0 := T _ _ g0 (by decide) (Or.inr rfl)
                replace g1 := T _ _ g1 (by decide) (Or.inr rfl)
                replace g3 := T _ _ g3 (by decide) (Or.inr rfl)
                have g2 := g
                clear g T
                exact ⟨lv, M, h, hM, es, g0, g1, (qa_gi0 c5 g2), g3⟩
            exact ⟨lv, M, h, hM, ((qa_ms0 c3 es).trans em6.symm), g0, g1, (qa_gi0 c3 g2), g3⟩
        obtain ⟨lv, h, g, T⟩ := qa_iinc (n := 3) (z := (1 : Int32)) (q := 65) (qa_e rfl h) rfl (by decide) g3
        replace g0 := T _ _ g0 (by decide) (Or.inr rfl)
        replace g1 := T _ _ g1 (by decide) (Or.inr rfl)
        replace g2 := T _ _ g2 (by decide) (Or.inr rfl)
        replace g3 := g
        clear g T
        replace h := qa_goto (q := 18) (qa_e rfl h) rfl
        have e0 : mc_141_3_p18 N l1 s = .inl ((s.1 + (1 : Int32)), (if (s.2.2 4 0) < s.1 then s.1 else (if (s.2.2 92 s.1.toNatClampNeg) = r4.1 then s.2.1 else s.1)), m6) := by exact Eq.trans (if_pos c1) (Eq.trans (if_pos c2) (Eq.trans (qa_ie er4) (Eq.trans (qa_ie em6) (rfl))))
        rw [qa_whl e0]
        exact ih n hn (Nat.le_of_succ_le hF) ((s.1 + (1 : Int32)), (if (s.2.2 4 0) < s.1 then s.1 else (if (s.2.2 92 s.1.toNatClampNeg) = r4.1 then s.2.1 else s.1)), m6) _ _ hM es g0 g1 g2 g3 h
      · replace h := qa_ift (q := 68) (qa_e rfl h) rfl (qa_T_ne c2)
        have e0 : mc_141_3_p18 N l1 s = .inr (s.1, s.2.1, s.2.2) := by exact Eq.trans (if_pos c1) (Eq.trans (if_neg c2) (rfl))
        rw [qa_whr e0]
        exact ⟨_, _, q61_mono f F _ _ _ _ _ _ _ _ (Nat.le_of_succ_le hF) h, hM, es, g0, g2⟩
    · replace h := qa_ift (q := 68) (qa_e rfl h) rfl (qa_T_ge c1)
      have e0 : mc_141_3_p18 N l1 s = .inr (s.1, s.2.1, s.2.2) := by exact Eq.trans (if_neg c1) (rfl)
      rw [qa_whr e0]
      exact ⟨_, _, q61_mono f F _ _ _ _ _ _ _ _ (Nat.le_of_succ_le hF) h, hM, es, g0, g2⟩
/-- BuriedBySevens, judge, (I)I -/
noncomputable def ma_141_3 (N : Nat) (a1 : Int32) (σ : qa_S) : Int32 × qa_S :=
  if (ma_26 a1) = (0 : Int32) then
    qa_in ((ma_9_3 (-1 : Int32) σ)) fun r2 =>
    (r2.1, r2.2)
  else
    qa_in ((qa_wh (fun s => s) (mc_141_3_p18 N a1) N ((0 : Int32), (-9 : Int32), σ))) fun r3 =>
    qa_in (qa_u r3.2.2 3 16 (0 : Int32)) fun m4 =>
    (r3.2.1, m4)
theorem mb_141_3 {f N : Nat} (hN : f ≤ N) {M : q4_M} {r : Option Value × q4_M} {σ : qa_S} {a1 : Int32} (hM : qa_O M) (es : qa_s M = σ) (h : q4_run f 141 0 (lv_args 0 [.ref 3, .int (a1)]) [] M 0 0 = some r) : r.1 = some (.int ((ma_141_3 N a1 σ).1)) ∧ qa_O r.2 ∧ qa_s r.2 = (ma_141_3 N a1 σ).2 := by
  obtain ⟨lv, el⟩ : ∃ l, l = lv_args 0 [.ref 3, .int (a1)] := ⟨_, rfl⟩
  have g0 : q4_get lv 0 = some (.ref 3) := by rw [el]; rfl
  have g1 : q4_get lv 1 = some (.int (a1)) := by rw [el]; rfl
  rw [← el] at h
  clear el
  replace h := qa_iload (n := 1) (q := 1) (qa_e rfl h) rfl g1
  obtain ⟨M, h, hM, es⟩ := qa_c1 (y := 26) (as := [.int (a1)]) (rest := []) (i := .invokestatic 26) (q := 4) (qa_e rfl h) (Or.inr rfl) rfl rfl (by decide) rfl (fun r hc => mb_26 hM es hc)
  by_cases c1 : (ma_26 a1) = (0 : Int32)
  · replace h := qa_icf (q := 7) (qa_e rfl h) rfl (qa_F_ne c1)
    replace h := qa_aload (n := 0) (q := 8) (qa_e rfl h) rfl g0
    replace h := qa_push (z := (-1 : Int32)) (q := 9) (qa_e rfl h) rfl (by decide)
    obtain ⟨r2, er2⟩ : ∃ x, x = (ma_9_3 (-1 : Int32) σ) := ⟨_, rfl⟩
    obtain ⟨M, h, hM, es⟩ := qa_c1 (y := 9) (as := [.ref 3, .int ((-1 : Int32))]) (rest := []) (i := .invokevirtual 9) (q := 12) (qa_e rfl h) (Or.inl rfl) rfl rfl (by decide) rfl (fun r hc => mb_9_3 hM es hc)
    rw [← er2] at h es
    have er := qa_ri (qa_e rfl h)
    subst er
    have e0 : ma_141_3 N a1 σ = (r2.1, r2.2) := by exact Eq.trans (if_pos c1) (Eq.trans (qa_ie er2) (rfl))
    rw [e0]
    exact ⟨rfl, hM, es⟩
  · replace h := qa_ict (q := 13) (qa_e rfl h) rfl (qa_T_ne c1)
    replace h := qa_push (z := (-9 : Int32)) (q := 15) (qa_e rfl h) rfl (by decide)
    obtain ⟨lv, h, g, T⟩ := qa_istore (n := 2) (q := 16) (qa_e rfl h) rfl
    replace g0 := T _ _ g0 (by decide) (Or.inr rfl)
    replace g1 := T _ _ g1 (by decide) (Or.inr rfl)
    have g2 := g
    clear g T
    replace h := qa_push (z := (0 : Int32)) (q := 17) (qa_e rfl h) rfl (by decide)
    obtain ⟨lv, h, g, T⟩ := qa_istore (n := 3) (q := 18) (qa_e rfl h) rfl
    replace g0 := T _ _ g0 (by decide) (Or.inr rfl)
    replace g1 := T _ _ g1 (by decide) (Or.inr rfl)
    replace g2 := T _ _ g2 (by decide) (Or.inr rfl)
    have g3 := g
    clear g T
    obtain ⟨r3, er3⟩ : ∃ x, x = (qa_wh (fun s => s) (mc_141_3_p18 N a1) N ((0 : Int32), (-9 : Int32), σ)) := ⟨_, rfl⟩
    have L := md_141_3_p18 (l1 := a1) (F := f) (N := N) (r := r) hN f N hN (Nat.le_refl f) ((0 : Int32), (-9 : Int32), σ) _ _ hM es g0 g1 g2 g3 h
    rw [← er3] at L
    obtain ⟨lv, M, h, hM, es, g0, g2⟩ := L
    replace h := qa_aload (n := 0) (q := 69) (qa_e rfl h) rfl g0
    replace h := qa_push (z := (0 : Int32)) (q := 70) (qa_e rfl h) rfl (by decide)
    obtain ⟨m4, em4⟩ : ∃ x, x = qa_u r3.2.2 3 16 (0 : Int32) := ⟨_, rfl⟩
    obtain ⟨M, h, hM, es⟩ := qa_pf (j := 16) (q := 73) (qa_e rfl h) rfl hM es rfl (by decide)
    rw [← em4] at es
    replace h := qa_iload (n := 2) (q := 74) (qa_e rfl h) rfl g2
    have er := qa_ri (qa_e rfl h)
    subst er
    have e0 : ma_141_3 N a1 σ = (r3.2.1, m4) := by exact Eq.trans (if_neg c1) (Eq.trans (qa_ie er3) (Eq.trans (qa_ie em4) (rfl)))
    rw [e0]
    exact ⟨rfl, hM, es⟩
/-- BuriedBySevens, clear, ()I -/
noncomputable def ma_142_3 (σ : qa_S) : Int32 × qa_S :=
  qa_in (qa_u σ 3 16 (0 : Int32)) fun m1 =>
  ((σ 3 16), m1)
theorem mb_142_3 {f : Nat} {M : q4_M} {r : Option Value × q4_M} {σ : qa_S} (hM : qa_O M) (es : qa_s M = σ) (h : q4_run f 142 0 (lv_args 0 [.ref 3]) [] M 0 0 = some r) : r.1 = some (.int ((ma_142_3 σ).1)) ∧ qa_O r.2 ∧ qa_s r.2 = (ma_142_3 σ).2 := by
  obtain ⟨lv, el⟩ : ∃ l, l = lv_args 0 [.ref 3] := ⟨_, rfl⟩
  have g0 : q4_get lv 0 = some (.ref 3) := by rw [el]; rfl
  rw [← el] at h
  clear el
  replace h := qa_aload (n := 0) (q := 1) (qa_e rfl h) rfl g0
  replace h := qa_gi (j := 16) (q := 4) (qa_e rfl h) rfl hM es rfl (by decide)
  obtain ⟨lv, h, g, T⟩ := qa_istore (n := 1) (q := 5) (qa_e rfl h) rfl
  replace g0 := T _ _ g0 (by decide) (Or.inr rfl)
  have g1 := g
  clear g T
  replace h := qa_aload (n := 0) (q := 6) (qa_e rfl h) rfl g0
  replace h := qa_push (z := (0 : Int32)) (q := 7) (qa_e rfl h) rfl (by decide)
  obtain ⟨m1, em1⟩ : ∃ x, x = qa_u σ 3 16 (0 : Int32) := ⟨_, rfl⟩
  obtain ⟨M, h, hM, es⟩ := qa_pf (j := 16) (q := 10) (qa_e rfl h) rfl hM es rfl (by decide)
  rw [← em1] at es
  replace h := qa_iload (n := 1) (q := 11) (qa_e rfl h) rfl g1
  have er := qa_ri (qa_e rfl h)
  subst er
  have e0 : ma_142_3 σ = ((σ 3 16), m1) := by exact Eq.trans (qa_ie em1) (rfl)
  rw [e0]
  exact ⟨rfl, hM, es⟩
noncomputable def mc_143_3_p63 (N : Nat) (l1 : Int32) (l3 : Int32) (l5 : Int32) (l6 : Int32) (l7 : Int32) (σ : qa_S) (s : Int32 × Int32 × Int32) : (Int32 × Int32 × Int32) ⊕ (Int32 × Int32 × Int32) :=
  if s.1 < (σ 4 0) then
    .inl ((s.1 + (1 : Int32)), ((s.2.1 * (1103515245 : Int32)) + (12345 : Int32)), (((3 : Int32) * s.2.2) + (((((s.2.1 * (1103515245 : Int32)) + (12345 : Int32)) &&& (2147483647 : Int32)) / (65536 : Int32)) - ((((s.2.1 * (1103515245 : Int32)) + (12345 : Int32)) &&& (2147483647 : Int32)) / (65536 : Int32)) / (3 : Int32) * (3 : Int32))))
  else
    .inr (s.1, s.2.1, s.2.2)
theorem md_143_3_p63 {N F : Nat} {r : Option Value × q4_M} {l1 : Int32} {l3 : Int32} {l5 : Int32} {l6 : Int32} {l7 : Int32} {σ : qa_S} (hN : F ≤ N) : ∀ f n, f ≤ n → f ≤ F → ∀ (s : Int32 × Int32 × Int32) (lv : List (Nat × Value)) (M : q4_M), qa_O M → qa_s M = σ → q4_get lv 0 = some (.ref 3) → q4_get lv 1 = some (.int (l1)) → q4_get lv 3 = some (.int (l3)) → q4_get lv 4 = some (.int (s.2.1)) → q4_get lv 5 = some (.int (l5)) → q4_get lv 6 = some (.int (l6)) → q4_get lv 7 = some (.int (l7)) → q4_get lv 8 = some (.int (s.2.2)) → q4_get lv 9 = some (.int (s.1)) → q4_run f 143 63 lv [] M 0 0 = some r → ∃ lv M, q4_run F 143 112 lv [] M 0 0 = some r ∧ qa_O M ∧ qa_s M = σ ∧ q4_get lv 0 = some (.ref 3) ∧ q4_get lv 1 = some (.int (l1)) ∧ q4_get lv 3 = some (.int (l3)) ∧ q4_get lv 4 = some (.int ((qa_wh (fun s => s) (mc_143_3_p63 N l1 l3 l5 l6 l7 σ) n s).2.1)) ∧ q4_get lv 5 = some (.int (l5)) ∧ q4_get lv 6 = some (.int (l6)) ∧ q4_get lv 7 = some (.int (l7)) ∧ q4_get lv 8 = some (.int ((qa_wh (fun s => s) (mc_143_3_p63 N l1 l3 l5 l6 l7 σ) n s).2.2)) := by
  intro f
  induction f with
  | zero => intro n _ _ s lv M hM es _ _ _ _ _ _ _ _ _ h; cases h
  | succ f ih =>
    intro n hn hF s lv M hM es g0 g1 g3 g4 g5 g6 g7 g8 g9 h
    obtain ⟨n, rfl⟩ : ∃ n1, n = n1 + 1 := ⟨n - 1, by omega⟩
    replace hn : f ≤ n := Nat.le_of_succ_le_succ hn
    have hN := Nat.le_trans (Nat.le_of_succ_le hF) hN
    replace h := qa_iload (n := 9) (q := 65) (qa_d rfl h) rfl g9
    replace h := qa_aload (n := 0) (q := 66) (qa_e rfl h) rfl g0
    replace h := qa_gr (b := 4) (j := 0) (q := 69) (qa_e rfl h) rfl hM rfl (by decide)
    replace h := qa_gi (j := 0) (q := 72) (qa_e rfl h) rfl hM es rfl (by decide)
    by_cases c1 : s.1 < (σ 4 0)
    · replace h := qa_iff (q := 75) (qa_e rfl h) rfl (qa_F_ge c1)
      replace h := qa_iload (n := 4) (q := 77) (qa_e rfl h) rfl g4
      replace h := qa_push (z := (1103515245 : Int32)) (q := 80) (qa_e rfl h) rfl (by decide)
      replace h := qa_imul (q := 81) (qa_e rfl h) rfl
      replace h := qa_push (z := (12345 : Int32)) (q := 84) (qa_e rfl h) rfl (by decide)
      replace h := qa_iadd (q := 85) (qa_e rfl h) rfl
      obtain ⟨lv, h, g, T⟩ := qa_istore (n := 4) (q := 87) (qa_e rfl h) rfl
      replace g0 := T _ _ g0 (by decide) (Or.inr rfl)
      replace g1 := T _ _ g1 (by decide) (Or.inr rfl)
      replace g3 := T _ _ g3 (by decide) (Or.inr rfl)
      replace g5 := T _ _ g5 (by decide) (Or.inr rfl)
      replace g6 := T _ _ g6 (by decide) (Or.inr rfl)
      replace g7 := T _ _ g7 (by decide) (Or.inr rfl)
      replace g8 := T _ _ g8 (by decide) (Or.inr rfl)
      replace g9 := T _ _ g9 (by decide) (Or.inr rfl)
      have g4 := g
      clear g T
      replace h := qa_push (z := (3 : Int32)) (q := 88) (qa_e rfl h) rfl (by decide)
      replace h := qa_iload (n := 8) (q := 90) (qa_e rfl h) rfl g8
      replace h := qa_imul (q := 91) (qa_e rfl h) rfl
      replace h := qa_iload (n := 4) (q := 93) (qa_e rfl h) rfl g4
      replace h := qa_push (z := (2147483647 : Int32)) (q := 96) (qa_e rfl h) rfl (by decide)
      replace h := qa_iand (q := 97) (qa_e rfl h) rfl
      replace h := qa_push (z := (65536 : Int32)) (q := 100) (qa_e rfl h) rfl (by decide)
      replace h := qa_idiv (q := 101) (qa_e rfl h) rfl
      replace h := qa_push (z := (3 : Int32)) (q := 102) (qa_e rfl h) rfl (by decide)
      replace h := qa_irem (q := 103) (qa_e rfl h) rfl
      replace h := qa_iadd (q := 104) (qa_e rfl h) rfl
      obtain ⟨lv, h, g, T⟩ := qa_istore (n := 8) (q := 106) (qa_e rfl h) rfl
      replace g0 := T _ _ g0 (by decide) (Or.inr rfl)
      replace g1 := T _ _ g1 (by decide) (Or.inr rfl)
      replace g3 := T _ _ g3 (by decide) (Or.inr rfl)
      replace g4 := T _ _ g4 (by decide) (Or.inr rfl)
      replace g5 := T _ _ g5 (by decide) (Or.inr rfl)
      replace g6 := T _ _ g6 (by decide) (Or.inr rfl)
      replace g7 := T _ _ g7 (by decide) (Or.inr rfl)
      replace g9 := T _ _ g9 (by decide) (Or.inr rfl)
      have g8 := g
      clear g T
      obtain ⟨lv, h, g, T⟩ := qa_iinc (n := 9) (z := (1 : Int32)) (q := 109) (qa_e rfl h) rfl (by decide) g9
      replace g0 := T _ _ g0 (by decide) (Or.inr rfl)
      replace g1 := T _ _ g1 (by decide) (Or.inr rfl)
      replace g3 := T _ _ g3 (by decide) (Or.inr rfl)
      replace g4 := T _ _ g4 (by decide) (Or.inr rfl)
      replace g5 := T _ _ g5 (by decide) (Or.inr rfl)
      replace g6 := T _ _ g6 (by decide) (Or.inr rfl)
      replace g7 := T _ _ g7 (by decide) (Or.inr rfl)
      replace g8 := T _ _ g8 (by decide) (Or.inr rfl)
      replace g9 := g
      clear g T
      replace h := qa_goto (q := 63) (qa_e rfl h) rfl
      have e0 : mc_143_3_p63 N l1 l3 l5 l6 l7 σ s = .inl ((s.1 + (1 : Int32)), ((s.2.1 * (1103515245 : Int32)) + (12345 : Int32)), (((3 : Int32) * s.2.2) + (((((s.2.1 * (1103515245 : Int32)) + (12345 : Int32)) &&& (2147483647 : Int32)) / (65536 : Int32)) - ((((s.2.1 * (1103515245 : Int32)) + (12345 : Int32)) &&& (2147483647 : Int32)) / (65536 : Int32)) / (3 : Int32) * (3 : Int32)))) := by exact Eq.trans (if_pos c1) (rfl)
      rw [qa_whl e0]
      exact ih n hn (Nat.le_of_succ_le hF) ((s.1 + (1 : Int32)), ((s.2.1 * (1103515245 : Int32)) + (12345 : Int32)), (((3 : Int32) * s.2.2) + (((((s.2.1 * (1103515245 : Int32)) + (12345 : Int32)) &&& (2147483647 : Int32)) / (65536 : Int32)) - ((((s.2.1 * (1103515245 : Int32)) + (12345 : Int32)) &&& (2147483647 : Int32)) / (65536 : Int32)) / (3 : Int32) * (3 : Int32)))) _ _ hM es g0 g1 g3 g4 g5 g6 g7 g8 g9 h
    · replace h := qa_ift (q := 112) (qa_e rfl h) rfl (qa_T_ge c1)
      have e0 : mc_143_3_p63 N l1 l3 l5 l6 l7 σ s = .inr (s.1, s.2.1, s.2.2) := by exact Eq.trans (if_neg c1) (rfl)
      rw [qa_whr e0]
      exact ⟨_, _, q61_mono f F _ _ _ _ _ _ _ _ (Nat.le_of_succ_le hF) h, hM, es, g0, g1, g3, g4, g5, g6, g7, g8⟩
noncomputable def mc_144_3_p20 (N : Nat) (l1 : Int32) (s : Int32 × qa_S) : (Int32 × qa_S) ⊕ (Int32 × qa_S) :=
  if s.1 < (4 : Int32) then
    qa_in ((ma_72_3 N s.2)) fun m2 =>
    qa_in (qa_u m2 95 s.1.toNatClampNeg (m2 (75 + s.1.toNatClampNeg) l1.toNatClampNeg)) fun m3 =>
    .inl ((s.1 + (1 : Int32)), m3)
  else
    .inr (s.1, s.2)
theorem md_144_3_p20 {N F : Nat} {r : Option Value × q4_M} {l1 : Int32} (hN : F ≤ N) : ∀ f n, f ≤ n → f ≤ F → ∀ (s : Int32 × qa_S) (lv : List (Nat × Value)) (M : q4_M), qa_O M → qa_s M = s.2 → q4_get lv 0 = some (.ref 3) → q4_get lv 1 = some (.int (l1)) → q4_get lv 2 = some (.int (s.1)) → q4_run f 144 20 lv [] M 0 0 = some r → ∃ lv M, q4_run F 144 48 lv [] M 0 0 = some r ∧ qa_O M ∧ qa_s M = (qa_wh (fun s => s) (mc_144_3_p20 N l1) n s).2 ∧ q4_get lv 0 = some (.ref 3) := by
  intro f
  induction f with
  | zero => intro n _ _ s lv M hM es _ _ _ h; cases h
  | succ f ih =>
    intro n hn hF s lv M hM es g0 g1 g2 h
    obtain ⟨n, rfl⟩ : ∃ n1, n = n1 + 1 := ⟨n - 1, by omega⟩
    replace hn : f ≤ n := Nat.le_of_succ_le_succ hn
    have hN := Nat.le_trans (Nat.le_of_succ_le hF) hN
    replace h := qa_iload (n := 2) (q := 21) (qa_d rfl h) rfl g2
    replace h := qa_push (z := (4 : Int32)) (q := 22) (qa_e rfl h) rfl (by decide)
    by_cases c1 : s.1 < (4 : Int32)
    · replace h := qa_iff (q := 25) (qa_e rfl h) rfl (qa_F_ge c1)
      replace h := qa_aload (n := 0) (q := 26) (qa_e rfl h) rfl g0
      replace h := qa_gr (b := 95) (j := 12) (q := 29) (qa_e rfl h) rfl hM rfl (by decide)
      replace h := qa_iload (n := 2) (q := 30) (qa_e rfl h) rfl g2
      replace h := qa_aload (n := 0) (q := 31) (qa_e rfl h) rfl g0
      obtain ⟨m2, em2⟩ : ∃ x, x = (ma_72_3 N s.2) := ⟨_, rfl⟩
      obtain ⟨M, h, hM, es⟩ := qa_c1 (y := 72) (as := [.ref 3]) (rest := [.int (s.1), .ref 95]) (i := .invokevirtual 72) (q := 34) (qa_e rfl h) (Or.inl rfl) rfl rfl (by decide) rfl (fun r hc => mb_72_3 hN hM es hc)
      rw [← em2] at es
      replace h := qa_gr (b := 74) (j := 2) (q := 37) (qa_e rfl h) rfl hM rfl (by decide)
      replace h := qa_iload (n := 2) (q := 38) (qa_e rfl h) rfl g2
      replace h := qa_aaload (b := 75) (jn := s.1.toNatClampNeg) (q := 39) (qa_e rfl h) rfl hM rfl (by decide) (by decide +kernel)
      replace h := qa_iload (n := 1) (q := 40) (qa_e rfl h) rfl g1
      replace h := qa_iaload (jn := l1.toNatClampNeg) (q := 41) (qa_e rfl h) rfl hM es rfl
      obtain ⟨m3, em3⟩ : ∃ x, x = qa_u m2 95 s.1.toNatClampNeg (m2 (75 + s.1.toNatClampNeg) l1.toNatClampNeg) := ⟨_, rfl⟩
      obtain ⟨M, h, hM, es⟩ := qa_iastore (jn := s.1.toNatClampNeg) (q := 42) (qa_e rfl h) rfl hM es rfl
      rw [← em3] at es
      obtain ⟨lv, h, g, T⟩ := qa_iinc (n := 2) (z := (1 : Int32)) (q := 45) (qa_e rfl h) rfl (by decide) g2
      replace g0 := T _ _ g0 (by decide) (Or.inr rfl)
      replace g1 := T _ _ g1 (by decide) (Or.inr rfl)
      replace g2 := g
      clear g T
      replace h := qa_goto (q := 20) (qa_e rfl h) rfl
      have e0 : mc_144_3_p20 N l1 s = .inl ((s.1 + (1 : Int32)), m3) := by exact Eq.trans (if_pos c1) (Eq.trans (qa_ie em2) (Eq.trans (qa_ie em3) (rfl)))
      rw [qa_whl e0]
      exact ih n hn (Nat.le_of_succ_le hF) ((s.1 + (1 : Int32)), m3) _ _ hM es g0 g1 g2 h
    · replace h := qa_ift (q := 48) (qa_e rfl h) rfl (qa_T_ge c1)
      have e0 : mc_144_3_p20 N l1 s = .inr (s.1, s.2) := by exact Eq.trans (if_neg c1) (rfl)
      rw [qa_whr e0]
      exact ⟨_, _, q61_mono f F _ _ _ _ _ _ _ _ (Nat.le_of_succ_le hF) h, hM, es, g0⟩
/-- BuriedBySevens, fitsOfMix, (I)I -/
noncomputable def ma_144_3 (N : Nat) (a1 : Int32) (σ : qa_S) : Int32 × qa_S :=
  if a1 < (1 : Int32) then
    ((0 : Int32), σ)
  else
    qa_in ((ma_72_3 N σ)) fun m2 =>
    if a1 < (m2 73 1) then
      qa_in ((qa_wh (fun s => s) (mc_144_3_p20 N a1) N ((0 : Int32), m2))) fun r4 =>
      qa_in ((ma_66_3 N (ma_60_3 r4.2) 95 r4.2)) fun m5 =>
      qa_in ((ma_72_3 N m5)) fun m6 =>
      qa_in ((ma_75_73_80 N m6)) fun r7 =>
      (r7, m6)
    else
      ((0 : Int32), m2)
theorem mb_144_3 {f N : Nat} (hN : f ≤ N) {M : q4_M} {r : Option Value × q4_M} {σ : qa_S} {a1 : Int32} (hM : qa_O M) (es : qa_s M = σ) (h : q4_run f 144 0 (lv_args 0 [.ref 3, .int (a1)]) [] M 0 0 = some r) : r.1 = some (.int ((ma_144_3 N a1 σ).1)) ∧ qa_O r.2 ∧ qa_s r.2 = (ma_144_3 N a1 σ).2 := by
  obtain ⟨lv, el⟩ : ∃ l, l = lv_args 0 [.ref 3, .int (a1)] := ⟨_, rfl⟩
  have g0 : q4_get lv 0 = some (.ref 3) := by rw [el]; rfl
  have g1 : q4_get lv 1 = some (.int (a1)) := by rw [el]; rfl
  rw [← el] at h
  clear el
  replace h := qa_iload (n := 1) (q := 1) (qa_e rfl h) rfl g1
  replace h := qa_push (z := (1 : Int32)) (q := 2) (qa_e rfl h) rfl (by decide)
  by_cases c1 : a1 < (1 : Int32)
  · replace h := qa_ift (q := 16) (qa_e rfl h) rfl (qa_T_lt c1)
    replace h := qa_push (z := (0 : Int32)) (q := 17) (qa_e rfl h) rfl (by decide)
    have er := qa_ri (qa_e rfl h)
    subst er
    have e0 : ma_144_3 N a1 σ = ((0 : Int32), σ) := by exact Eq.trans (if_pos c1) (rfl)
    rw [e0]
    exact ⟨rfl, hM, es⟩
  · replace h := qa_iff (q := 5) (qa_e rfl h) rfl (qa_F_lt c1)
    replace h := qa_iload (n := 1) (q := 6) (qa_e rfl h) rfl g1
    replace h := qa_aload (n := 0) (q := 7) (qa_e rfl h) rfl g0
    obtain ⟨m2, em2⟩ : ∃ x, x = (ma_72_3 N σ) := ⟨_, rfl⟩
    obtain ⟨M, h, hM, es⟩ := qa_c1 (y := 72) (as := [.ref 3]) (rest := [.int (a1)]) (i := .invokevirtual 72) (q := 10) (qa_e rfl h) (Or.inl rfl) rfl rfl (by decide) rfl (fun r hc => mb_72_3 hN hM es hc)
    rw [← em2] at es
    replace h := qa_gi (j := 1) (q := 13) (qa_e rfl h) rfl hM es rfl (by decide)
    by_cases c3 : a1 < (m2 73 1)
    · replace h := qa_ift (q := 18) (qa_e rfl h) rfl (qa_T_lt c3)
      replace h := qa_push (z := (0 : Int32)) (q := 19) (qa_e rfl h) rfl (by decide)
      obtain ⟨lv, h, g, T⟩ := qa_istore (n := 2) (q := 20) (qa_e rfl h) rfl
      replace g0 := T _ _ g0 (by decide) (Or.inr rfl)
      replace g1 := T _ _ g1 (by decide) (Or.inr rfl)
      have g2 := g
      clear g T
      obtain ⟨r4, er4⟩ : ∃ x, x = (qa_wh (fun s => s) (mc_144_3_p20 N a1) N ((0 : Int32), m2)) := ⟨_, rfl⟩
      have L := md_144_3_p20 (l1 := a1) (F := f) (N := N) (r := r) hN f N hN (Nat.le_refl f) ((0 : Int32), m2) _ _ hM es g0 g1 g2 h
      rw [← er4] at L
      obtain ⟨lv, M, h, hM, es, g0⟩ := L
      replace h := qa_aload (n := 0) (q := 49) (qa_e rfl h) rfl g0
      replace h := qa_aload (n := 0) (q := 50) (qa_e rfl h) rfl g0
      obtain ⟨M, h, hM, es⟩ := qa_c1 (y := 60) (as := [.ref 3]) (rest := [.ref 3]) (i := .invokevirtual 60) (q := 53) (qa_e rfl h) (Or.inl rfl) rfl rfl (by decide) rfl (fun r hc => mb_60_3 hM es hc)
      replace h := qa_aload (n := 0) (q := 54) (qa_e rfl h) rfl g0
      replace h := qa_gr (b := 95) (j := 12) (q := 57) (qa_e rfl h) rfl hM rfl (by decide)
      obtain ⟨m5, em5⟩ : ∃ x, x = (ma_66_3 N (ma_60_3 r4.2) 95 r4.2) := ⟨_, rfl⟩
      obtain ⟨M, h, hM, es⟩ := qa_c0 (y := 66) (as := [.ref 3, .int ((ma_60_3 r4.2)), .ref 95]) (rest := []) (i := .invokevirtual 66) (q := 60) (qa_e rfl h) (Or.inl rfl) rfl rfl (by decide) rfl (fun r hc => mb_66_3 hN hM es hc)
      rw [← em5] at es
      replace h := qa_aload (n := 0) (q := 61) (qa_e rfl h) rfl g0
      obtain ⟨m6, em6⟩ : ∃ x, x = (ma_72_3 N m5) := ⟨_, rfl⟩
      obtain ⟨M, h, hM, es⟩ := qa_c1 (y := 72) (as := [.ref 3]) (rest := []) (i := .invokevirtual 72) (q := 64) (qa_e rfl h) (Or.inl rfl) rfl rfl (by decide) rfl (fun r hc => mb_72_3 hN hM es hc)
      rw [← em6] at es
      replace h := qa_aload (n := 0) (q := 65) (qa_e rfl h) rfl g0
      replace h := qa_gr (b := 80) (j := 4) (q := 68) (qa_e rfl h) rfl hM rfl (by decide)
      obtain ⟨r7, er7⟩ : ∃ x, x = (ma_75_73_80 N m6) := ⟨_, rfl⟩
      obtain ⟨M, h, hM, es⟩ := qa_c1 (y := 75) (as := [.ref 73, .ref 80]) (rest := []) (i := .invokevirtual 75) (q := 71) (qa_e rfl h) (Or.inl rfl) rfl rfl (by decide) rfl (fun r hc => mb_75_73_80 hN hM es hc)
      rw [← er7] at h
      have er := qa_ri (qa_e rfl h)
      subst er
      have e0 : ma_144_3 N a1 σ = (r7, m6) := by exact Eq.trans (if_neg c1) (Eq.trans (qa_ie em2) (Eq.trans (if_pos c3) (Eq.trans (qa_ie er4) (Eq.trans (qa_ie em5) (Eq.trans (qa_ie em6) (Eq.trans (qa_ie er7) (rfl)))))))
      rw [e0]
      exact ⟨rfl, hM, es⟩
    · replace h := qa_iff (q := 16) (qa_e rfl h) rfl (qa_F_lt c3)
      replace h := qa_push (z := (0 : Int32)) (q := 17) (qa_e rfl h) rfl (by decide)
      have er := qa_ri (qa_e rfl h)
      subst er
      have e0 : ma_144_3 N a1 σ = ((0 : Int32), m2) := by exact Eq.trans (if_neg c1) (Eq.trans (qa_ie em2) (Eq.trans (if_neg c3) (rfl)))
      rw [e0]
      exact ⟨rfl, hM, es⟩
noncomputable def mc_143_3_p51 (N : Nat) (l1 : Int32) (l3 : Int32) (s : Int32 × Int32 × Int32 × Int32 × qa_S) : (Int32 × Int32 × Int32 × Int32 × qa_S) ⊕ (Int32 × Int32 × Int32 × Int32 × qa_S) :=
  if s.1 < l1 then
    qa_in ((qa_wh (fun s => s) (mc_143_3_p63 N l1 l3 s.2.2.1 s.2.2.2.1 s.1 s.2.2.2.2) N ((0 : Int32), s.2.1, (0 : Int32)))) fun r2 =>
    qa_in ((ma_144_3 N r2.2.2 s.2.2.2.2)) fun r3 =>
    .inl ((s.1 + (1 : Int32)), r2.2.1, (s.2.2.1 + r3.1), (s.2.2.2.1 + (if r3.1 = (1 : Int32) then (1 : Int32) else (0 : Int32))), r3.2)
  else
    .inr (s.1, s.2.1, s.2.2.1, s.2.2.2.1, s.2.2.2.2)
theorem md_143_3_p51 {N F : Nat} {r : Option Value × q4_M} {l1 : Int32} {l3 : Int32} (hN : F ≤ N) : ∀ f n, f ≤ n → f ≤ F → ∀ (s : Int32 × Int32 × Int32 × Int32 × qa_S) (lv : List (Nat × Value)) (M : q4_M), qa_O M → qa_s M = s.2.2.2.2 → q4_get lv 0 = some (.ref 3) → q4_get lv 1 = some (.int (l1)) → q4_get lv 3 = some (.int (l3)) → q4_get lv 4 = some (.int (s.2.1)) → q4_get lv 5 = some (.int (s.2.2.1)) → q4_get lv 6 = some (.int (s.2.2.2.1)) → q4_get lv 7 = some (.int (s.1)) → q4_run f 143 51 lv [] M 0 0 = some r → ∃ lv M, q4_run F 143 149 lv [] M 0 0 = some r ∧ qa_O M ∧ qa_s M = (qa_wh (fun s => s) (mc_143_3_p51 N l1 l3) n s).2.2.2.2 ∧ q4_get lv 3 = some (.int (l3)) ∧ q4_get lv 5 = some (.int ((qa_wh (fun s => s) (mc_143_3_p51 N l1 l3) n s).2.2.1)) ∧ q4_get lv 6 = some (.int ((qa_wh (fun s => s) (mc_143_3_p51 N l1 l3) n s).2.2.2.1)) := by
  intro f
  induction f with
  | zero => intro n _ _ s lv M hM es _ _ _ _ _ _ _ h; cases h
  | succ f ih =>
    intro n hn hF s lv M hM es g0 g1 g3 g4 g5 g6 g7 h
    obtain ⟨n, rfl⟩ : ∃ n1, n = n1 + 1 := ⟨n - 1, by omega⟩
    replace hn : f ≤ n := Nat.le_of_succ_le_succ hn
    have hN := Nat.le_trans (Nat.le_of_succ_le hF) hN
    replace h := qa_iload (n := 7) (q := 53) (qa_d rfl h) rfl g7
    replace h := qa_iload (n := 1) (q := 54) (qa_e rfl h) rfl g1
    by_cases c1 : s.1 < l1
    · replace h := qa_iff (q := 57) (qa_e rfl h) rfl (qa_F_ge c1)
      replace h := qa_push (z := (0 : Int32)) (q := 58) (qa_e rfl h) rfl (by decide)
      obtain ⟨lv, h, g, T⟩ := qa_istore (n := 8) (q := 60) (qa_e rfl h) rfl
      replace g0 := T _ _ g0 (by decide) (Or.inr rfl)
      replace g1 := T _ _ g1 (by decide) (Or.inr rfl)
      replace g3 := T _ _ g3 (by decide) (Or.inr rfl)
      replace g4 := T _ _ g4 (by decide) (Or.inr rfl)
      replace g5 := T _ _ g5 (by decide) (Or.inr rfl)
      replace g6 := T _ _ g6 (by decide) (Or.inr rfl)
      replace g7 := T _ _ g7 (by decide) (Or.inr rfl)
      have g8 := g
      clear g T
      replace h := qa_push (z := (0 : Int32)) (q := 61) (qa_e rfl h) rfl (by decide)
      obtain ⟨lv, h, g, T⟩ := qa_istore (n := 9) (q := 63) (qa_e rfl h) rfl
      replace g0 := T _ _ g0 (by decide) (Or.inr rfl)
      replace g1 := T _ _ g1 (by decide) (Or.inr rfl)
      replace g3 := T _ _ g3 (by decide) (Or.inr rfl)
      replace g4 := T _ _ g4 (by decide) (Or.inr rfl)
      replace g5 := T _ _ g5 (by decide) (Or.inr rfl)
      replace g6 := T _ _ g6 (by decide) (Or.inr rfl)
      replace g7 := T _ _ g7 (by decide) (Or.inr rfl)
      replace g8 := T _ _ g8 (by decide) (Or.inr rfl)
      have g9 := g
      clear g T
      obtain ⟨r2, er2⟩ : ∃ x, x = (qa_wh (fun s => s) (mc_143_3_p63 N l1 l3 s.2.2.1 s.2.2.2.1 s.1 s.2.2.2.2) N ((0 : Int32), s.2.1, (0 : Int32))) := ⟨_, rfl⟩
      have L := md_143_3_p63 (l1 := l1) (l3 := l3) (l5 := s.2.2.1) (l6 := s.2.2.2.1) (l7 := s.1) (σ := s.2.2.2.2) (F := f) (N := N) (r := r) hN f N hN (Nat.le_refl f) ((0 : Int32), s.2.1, (0 : Int32)) _ _ hM es g0 g1 g3 g4 g5 g6 g7 g8 g9 h
      rw [← er2] at L
      obtain ⟨lv, M, h, hM, es, g0, g1, g3, g4, g5, g6, g7, g8⟩ := L
      replace h := qa_aload (n := 0) (q := 113) (qa_e rfl h) rfl g0
      replace h := qa_iload (n := 8) (q := 115) (qa_e rfl h) rfl g8
      obtain ⟨r3, er3⟩ : ∃ x, x = (ma_144_3 N r2.2.2 s.2.2.2.2) := ⟨_, rfl⟩
      obtain ⟨M, h, hM, es⟩ := qa_c1 (y := 144) (as := [.ref 3, .int (r2.2.2)]) (rest := []) (i := .invokevirtual 144) (q := 118) (qa_e rfl h) (Or.inl rfl) rfl rfl (by decide) rfl (fun r hc => mb_144_3 hN hM es hc)
      rw [← er3] at h es
      obtain ⟨lv, h, g, T⟩ := qa_istore (n := 9) (q := 120) (qa_e rfl h) rfl
      replace g0 := T _ _ g0 (by decide) (Or.inr rfl)
      replace g1 := T _ _ g1 (by decide) (Or.inr rfl)
      replace g3 := T _ _ g3 (by decide) (Or.inr rfl)
      replace g4 := T _ _ g4 (by decide) (Or.inr rfl)
      replace g5 := T _ _ g5 (by decide) (Or.inr rfl)
      replace g6 := T _ _ g6 (by decide) (Or.inr rfl)
      replace g7 := T _ _ g7 (by decide) (Or.inr rfl)
      have g9 := g
      clear g T
      replace h := qa_iload (n := 5) (q := 122) (qa_e rfl h) rfl g5
      replace h := qa_iload (n := 9) (q := 124) (qa_e rfl h) rfl g9
      replace h := qa_iadd (q := 125) (qa_e rfl h) rfl
      obtain ⟨lv, h, g, T⟩ := qa_istore (n := 5) (q := 127) (qa_e rfl h) rfl
      replace g0 := T _ _ g0 (by decide) (Or.inr rfl)
      replace g1 := T _ _ g1 (by decide) (Or.inr rfl)
      replace g3 := T _ _ g3 (by decide) (Or.inr rfl)
      replace g4 := T _ _ g4 (by decide) (Or.inr rfl)
      replace g6 := T _ _ g6 (by decide) (Or.inr rfl)
      replace g7 := T _ _ g7 (by decide) (Or.inr rfl)
      replace g9 := T _ _ g9 (by decide) (Or.inr rfl)
      have g5 := g
      clear g T
      replace h := qa_iload (n := 6) (q := 129) (qa_e rfl h) rfl g6
      replace h := qa_iload (n := 9) (q := 131) (qa_e rfl h) rfl g9
      replace h := qa_push (z := (1 : Int32)) (q := 132) (qa_e rfl h) rfl (by decide)
      obtain ⟨lv, M, h, hM, es, g0, g1, g3, g4, g5, g7⟩ : ∃ lv M, q4_run f 143 140 lv [.int ((if r3.1 = (1 : Int32) then (1 : Int32) else (0 : Int32))), .int (s.2.2.2.1)] M 0 0 = some r ∧ qa_O M ∧ qa_s M = r3.2 ∧ q4_get lv 0 = some (.ref 3) ∧ q4_get lv 1 = some (.int (l1)) ∧ q4_get lv 3 = some (.int (l3)) ∧ q4_get lv 4 = some (.int (r2.2.1)) ∧ q4_get lv 5 = some (.int ((s.2.2.1 + r3.1))) ∧ q4_get lv 7 = some (.int (s.1)) := by
        by_cases c4 : r3.1 = (1 : Int32)
        · replace h := qa_iff (q := 135) (qa_e rfl h) rfl (qa_F_ne c4)
          replace h := qa_push (z := (1 : Int32)) (q := 136) (qa_e rfl h) rfl (by decide)
          replace h := qa_goto (q := 140) (qa_e rfl h) rfl
          exact ⟨lv, M, (qa_hi1 c4 h), hM, es, g0, g1, g3, g4, g5, g7⟩
        · replace h := qa_ift (q := 139) (qa_e rfl h) rfl (qa_T_ne c4)
          replace h := qa_push (z := (0 : Int32)) (q := 140) (qa_e rfl h) rfl (by decide)
          exact ⟨lv, M, (qa_hi0 c4 h), hM, es, g0, g1, g3, g4, g5, g7⟩
      replace h := qa_iadd (q := 141) (qa_e rfl h) rfl
      obtain ⟨lv, h, g, T⟩ := qa_istore (n := 6) (q := 143) (qa_e rfl h) rfl
      replace g0 := T _ _ g0 (by decide) (Or.inr rfl)
      replace g1 := T _ _ g1 (by decide) (Or.inr rfl)
      replace g3 := T _ _ g3 (by decide) (Or.inr rfl)
      replace g4 := T _ _ g4 (by decide) (Or.inr rfl)
      replace g5 := T _ _ g5 (by decide) (Or.inr rfl)
      replace g7 := T _ _ g7 (by decide) (Or.inr rfl)
      have g6 := g
      clear g T
      obtain ⟨lv, h, g, T⟩ := qa_iinc (n := 7) (z := (1 : Int32)) (q := 146) (qa_e rfl h) rfl (by decide) g7
      replace g0 := T _ _ g0 (by decide) (Or.inr rfl)
      replace g1 := T _ _ g1 (by decide) (Or.inr rfl)
      replace g3 := T _ _ g3 (by decide) (Or.inr rfl)
      replace g4 := T _ _ g4 (by decide) (Or.inr rfl)
      replace g5 := T _ _ g5 (by decide) (Or.inr rfl)
      replace g6 := T _ _ g6 (by decide) (Or.inr rfl)
      replace g7 := g
      clear g T
      replace h := qa_goto (q := 51) (qa_e rfl h) rfl
      have e0 : mc_143_3_p51 N l1 l3 s = .inl ((s.1 + (1 : Int32)), r2.2.1, (s.2.2.1 + r3.1), (s.2.2.2.1 + (if r3.1 = (1 : Int32) then (1 : Int32) else (0 : Int32))), r3.2) := by exact Eq.trans (if_pos c1) (Eq.trans (qa_ie er2) (Eq.trans (qa_ie er3) (rfl)))
      rw [qa_whl e0]
      exact ih n hn (Nat.le_of_succ_le hF) ((s.1 + (1 : Int32)), r2.2.1, (s.2.2.1 + r3.1), (s.2.2.2.1 + (if r3.1 = (1 : Int32) then (1 : Int32) else (0 : Int32))), r3.2) _ _ hM es g0 g1 g3 g4 g5 g6 g7 h
    · replace h := qa_ift (q := 149) (qa_e rfl h) rfl (qa_T_ge c1)
      have e0 : mc_143_3_p51 N l1 l3 s = .inr (s.1, s.2.1, s.2.2.1, s.2.2.2.1, s.2.2.2.2) := by exact Eq.trans (if_neg c1) (rfl)
      rw [qa_whr e0]
      exact ⟨_, _, q61_mono f F _ _ _ _ _ _ _ _ (Nat.le_of_succ_le hF) h, hM, es, g3, g5, g6⟩
/-- BuriedBySevens, lots, (III)I -/
noncomputable def ma_143_3 (N : Nat) (a1 : Int32) (a2 : Int32) (a3 : Int32) (σ : qa_S) : Int32 × qa_S :=
  if a1 < (1 : Int32) then
    qa_in ((ma_9_3 (-4 : Int32) σ)) fun r2 =>
    (r2.1, r2.2)
  else
    if (20 : Int32) < a1 then
      qa_in ((ma_9_3 (-6 : Int32) σ)) fun r4 =>
      (r4.1, r4.2)
    else
      if (ma_57 a3) = (0 : Int32) then
        qa_in ((ma_9_3 (-2 : Int32) σ)) fun r6 =>
        (r6.1, r6.2)
      else
        qa_in ((qa_wh (fun s => s) (mc_143_3_p51 N a1 a3) N ((0 : Int32), a2, (0 : Int32), (0 : Int32), σ))) fun r7 =>
        ((if a3 = (0 : Int32) then r7.2.2.1 else r7.2.2.2.1), r7.2.2.2.2)
theorem mb_143_3 {f N : Nat} (hN : f ≤ N) {M : q4_M} {r : Option Value × q4_M} {σ : qa_S} {a1 : Int32} {a2 : Int32} {a3 : Int32} (hM : qa_O M) (es : qa_s M = σ) (h : q4_run f 143 0 (lv_args 0 [.ref 3, .int (a1), .int (a2), .int (a3)]) [] M 0 0 = some r) : r.1 = some (.int ((ma_143_3 N a1 a2 a3 σ).1)) ∧ qa_O r.2 ∧ qa_s r.2 = (ma_143_3 N a1 a2 a3 σ).2 := by
  obtain ⟨lv, el⟩ : ∃ l, l = lv_args 0 [.ref 3, .int (a1), .int (a2), .int (a3)] := ⟨_, rfl⟩
  have g0 : q4_get lv 0 = some (.ref 3) := by rw [el]; rfl
  have g1 : q4_get lv 1 = some (.int (a1)) := by rw [el]; rfl
  have g2 : q4_get lv 2 = some (.int (a2)) := by rw [el]; rfl
  have g3 : q4_get lv 3 = some (.int (a3)) := by rw [el]; rfl
  rw [← el] at h
  clear el
  replace h := qa_iload (n := 1) (q := 1) (qa_e rfl h) rfl g1
  replace h := qa_push (z := (1 : Int32)) (q := 2) (qa_e rfl h) rfl (by decide)
  by_cases c1 : a1 < (1 : Int32)
  · replace h := qa_iff (q := 5) (qa_e rfl h) rfl (qa_F_ge c1)
    replace h := qa_aload (n := 0) (q := 6) (qa_e rfl h) rfl g0
    replace h := qa_push (z := (-4 : Int32)) (q := 8) (qa_e rfl h) rfl (by decide)
    obtain ⟨r2, er2⟩ : ∃ x, x = (ma_9_3 (-4 : Int32) σ) := ⟨_, rfl⟩
    obtain ⟨M, h, hM, es⟩ := qa_c1 (y := 9) (as := [.ref 3, .int ((-4 : Int32))]) (rest := []) (i := .invokevirtual 9) (q := 11) (qa_e rfl h) (Or.inl rfl) rfl rfl (by decide) rfl (fun r hc => mb_9_3 hM es hc)
    rw [← er2] at h es
    have er := qa_ri (qa_e rfl h)
    subst er
    have e0 : ma_143_3 N a1 a2 a3 σ = (r2.1, r2.2) := by exact Eq.trans (if_pos c1) (Eq.trans (qa_ie er2) (rfl))
    rw [e0]
    exact ⟨rfl, hM, es⟩
  · replace h := qa_ift (q := 12) (qa_e rfl h) rfl (qa_T_ge c1)
    replace h := qa_iload (n := 1) (q := 13) (qa_e rfl h) rfl g1
    replace h := qa_push (z := (20 : Int32)) (q := 15) (qa_e rfl h) rfl (by decide)
    by_cases c3 : (20 : Int32) < a1
    · replace h := qa_iff (q := 18) (qa_e rfl h) rfl (qa_F_le c3)
      replace h := qa_aload (n := 0) (q := 19) (qa_e rfl h) rfl g0
      replace h := qa_push (z := (-6 : Int32)) (q := 21) (qa_e rfl h) rfl (by decide)
      obtain ⟨r4, er4⟩ : ∃ x, x = (ma_9_3 (-6 : Int32) σ) := ⟨_, rfl⟩
      obtain ⟨M, h, hM, es⟩ := qa_c1 (y := 9) (as := [.ref 3, .int ((-6 : Int32))]) (rest := []) (i := .invokevirtual 9) (q := 24) (qa_e rfl h) (Or.inl rfl) rfl rfl (by decide) rfl (fun r hc => mb_9_3 hM es hc)
      rw [← er4] at h es
      have er := qa_ri (qa_e rfl h)
      subst er
      have e0 : ma_143_3 N a1 a2 a3 σ = (r4.1, r4.2) := by exact Eq.trans (if_neg c1) (Eq.trans (if_pos c3) (Eq.trans (qa_ie er4) (rfl)))
      rw [e0]
      exact ⟨rfl, hM, es⟩
    · replace h := qa_ift (q := 25) (qa_e rfl h) rfl (qa_T_le c3)
      replace h := qa_iload (n := 3) (q := 26) (qa_e rfl h) rfl g3
      obtain ⟨M, h, hM, es⟩ := qa_c1 (y := 57) (as := [.int (a3)]) (rest := []) (i := .invokestatic 57) (q := 29) (qa_e rfl h) (Or.inr rfl) rfl rfl (by decide) rfl (fun r hc => mb_57 hM es hc)
      by_cases c5 : (ma_57 a3) = (0 : Int32)
      · replace h := qa_icf (q := 32) (qa_e rfl h) rfl (qa_F_ne c5)
        replace h := qa_aload (n := 0) (q := 33) (qa_e rfl h) rfl g0
        replace h := qa_push (z := (-2 : Int32)) (q := 35) (qa_e rfl h) rfl (by decide)
        obtain ⟨r6, er6⟩ : ∃ x, x = (ma_9_3 (-2 : Int32) σ) := ⟨_, rfl⟩
        obtain ⟨M, h, hM, es⟩ := qa_c1 (y := 9) (as := [.ref 3, .int ((-2 : Int32))]) (rest := []) (i := .invokevirtual 9) (q := 38) (qa_e rfl h) (Or.inl rfl) rfl rfl (by decide) rfl (fun r hc => mb_9_3 hM es hc)
        rw [← er6] at h es
        have er := qa_ri (qa_e rfl h)
        subst er
        have e0 : ma_143_3 N a1 a2 a3 σ = (r6.1, r6.2) := by exact Eq.trans (if_neg c1) (Eq.trans (if_neg c3) (Eq.trans (if_pos c5) (Eq.trans (qa_ie er6) (rfl))))
        rw [e0]
        exact ⟨rfl, hM, es⟩
      · replace h := qa_ict (q := 39) (qa_e rfl h) rfl (qa_T_ne c5)
        replace h := qa_iload (n := 2) (q := 40) (qa_e rfl h) rfl g2
        obtain ⟨lv, h, g, T⟩ := qa_istore (n := 4) (q := 42) (qa_e rfl h) rfl
        replace g0 := T _ _ g0 (by decide) (Or.inr rfl)
        replace g1 := T _ _ g1 (by decide) (Or.inr rfl)
        replace g3 := T _ _ g3 (by decide) (Or.inr rfl)
        have g4 := g
        clear g T
        replace h := qa_push (z := (0 : Int32)) (q := 43) (qa_e rfl h) rfl (by decide)
        obtain ⟨lv, h, g, T⟩ := qa_istore (n := 5) (q := 45) (qa_e rfl h) rfl
        replace g0 := T _ _ g0 (by decide) (Or.inr rfl)
        replace g1 := T _ _ g1 (by decide) (Or.inr rfl)
        replace g3 := T _ _ g3 (by decide) (Or.inr rfl)
        replace g4 := T _ _ g4 (by decide) (Or.inr rfl)
        have g5 := g
        clear g T
        replace h := qa_push (z := (0 : Int32)) (q := 46) (qa_e rfl h) rfl (by decide)
        obtain ⟨lv, h, g, T⟩ := qa_istore (n := 6) (q := 48) (qa_e rfl h) rfl
        replace g0 := T _ _ g0 (by decide) (Or.inr rfl)
        replace g1 := T _ _ g1 (by decide) (Or.inr rfl)
        replace g3 := T _ _ g3 (by decide) (Or.inr rfl)
        replace g4 := T _ _ g4 (by decide) (Or.inr rfl)
        replace g5 := T _ _ g5 (by decide) (Or.inr rfl)
        have g6 := g
        clear g T
        replace h := qa_push (z := (0 : Int32)) (q := 49) (qa_e rfl h) rfl (by decide)
        obtain ⟨lv, h, g, T⟩ := qa_istore (n := 7) (q := 51) (qa_e rfl h) rfl
        replace g0 := T _ _ g0 (by decide) (Or.inr rfl)
        replace g1 := T _ _ g1 (by decide) (Or.inr rfl)
        replace g3 := T _ _ g3 (by decide) (Or.inr rfl)
        replace g4 := T _ _ g4 (by decide) (Or.inr rfl)
        replace g5 := T _ _ g5 (by decide) (Or.inr rfl)
        replace g6 := T _ _ g6 (by decide) (Or.inr rfl)
        have g7 := g
        clear g T
        obtain ⟨r7, er7⟩ : ∃ x, x = (qa_wh (fun s => s) (mc_143_3_p51 N a1 a3) N ((0 : Int32), a2, (0 : Int32), (0 : Int32), σ)) := ⟨_, rfl⟩
        have L := md_143_3_p51 (l1 := a1) (l3 := a3) (F := f) (N := N) (r := r) hN f N hN (Nat.le_refl f) ((0 : Int32), a2, (0 : Int32), (0 : Int32), σ) _ _ hM es g0 g1 g3 g4 g5 g6 g7 h
        rw [← er7] at L
        obtain ⟨lv, M, h, hM, es, g3, g5, g6⟩ := L
        replace h := qa_iload (n := 3) (q := 150) (qa_e rfl h) rfl g3
        obtain ⟨lv, M, h, hM, es⟩ : ∃ lv M, q4_run f 143 160 lv [.int ((if a3 = (0 : Int32) then r7.2.2.1 else r7.2.2.2.1))] M 0 0 = some r ∧ qa_O M ∧ qa_s M = r7.2.2.2.2 := by
          by_cases c8 : a3 = (0 : Int32)
          · replace h := qa_icf (q := 153) (qa_e rfl h) rfl (qa_F_ne c8)
            replace h := qa_iload (n := 5) (q := 155) (qa_e rfl h) rfl g5
            replace h := qa_goto (q := 160) (qa_e rfl h) rfl
            exact ⟨lv, M, (qa_hi1 c8 h), hM, es⟩
          · replace h := qa_ict (q := 158) (qa_e rfl h) rfl (qa_T_ne c8)
            replace h := qa_iload (n := 6) (q := 160) (qa_e rfl h) rfl g6
            exact ⟨lv, M, (qa_hi0 c8 h), hM, es⟩
        have er := qa_ri (qa_e rfl h)
        subst er
        have e0 : ma_143_3 N a1 a2 a3 σ = ((if a3 = (0 : Int32) then r7.2.2.1 else r7.2.2.2.1), r7.2.2.2.2) := by exact Eq.trans (if_neg c1) (Eq.trans (if_neg c3) (Eq.trans (if_neg c5) (Eq.trans (qa_ie er7) (rfl))))
        rw [e0]
        exact ⟨rfl, hM, es⟩
noncomputable def mc_12_27_4_p63 (N : Nat) (s : Int32 × qa_S) : (Int32 × qa_S) ⊕ (Int32 × qa_S) :=
  if s.1 < (7 : Int32) then
    qa_in (qa_cp s.2 (9 + s.1.toNatClampNeg) 0 (32 + s.1.toNatClampNeg) 0 4) fun m2 =>
    .inl ((s.1 + (1 : Int32)), m2)
  else
    .inr (s.1, s.2)
theorem md_12_27_4_p63 {N F : Nat} {r : Option Value × q4_M} (hN : F ≤ N) : ∀ f n, f ≤ n → f ≤ F → ∀ (s : Int32 × qa_S) (lv : List (Nat × Value)) (M : q4_M), qa_O M → qa_s M = s.2 → q4_get lv 0 = some (.ref 27) → q4_get lv 1 = some (.ref 4) → q4_get lv 2 = some (.int (s.1)) → q4_run f 12 63 lv [] M 0 0 = some r → ∃ lv M, q4_run F 12 93 lv [] M 0 0 = some r ∧ qa_O M ∧ qa_s M = (qa_wh (fun s => s) (mc_12_27_4_p63 N) n s).2 ∧ q4_get lv 0 = some (.ref 27) ∧ q4_get lv 1 = some (.ref 4) := by
  intro f
  induction f with
  | zero => intro n _ _ s lv M hM es _ _ _ h; cases h
  | succ f ih =>
    intro n hn hF s lv M hM es g0 g1 g2 h
    obtain ⟨n, rfl⟩ : ∃ n1, n = n1 + 1 := ⟨n - 1, by omega⟩
    replace hn : f ≤ n := Nat.le_of_succ_le_succ hn
    have hN := Nat.le_trans (Nat.le_of_succ_le hF) hN
    replace h := qa_iload (n := 2) (q := 64) (qa_d rfl h) rfl g2
    replace h := qa_push (z := (7 : Int32)) (q := 66) (qa_e rfl h) rfl (by decide)
    by_cases c1 : s.1 < (7 : Int32)
    · replace h := qa_iff (q := 69) (qa_e rfl h) rfl (qa_F_ge c1)
      replace h := qa_aload (n := 1) (q := 70) (qa_e rfl h) rfl g1
      replace h := qa_gr (b := 8) (j := 5) (q := 73) (qa_e rfl h) rfl hM rfl (by decide)
      replace h := qa_iload (n := 2) (q := 74) (qa_e rfl h) rfl g2
      replace h := qa_aaload (b := 9) (jn := s.1.toNatClampNeg) (q := 75) (qa_e rfl h) rfl hM rfl (by decide) (by decide +kernel)
      replace h := qa_push (z := (0 : Int32)) (q := 76) (qa_e rfl h) rfl (by decide)
      replace h := qa_aload (n := 0) (q := 77) (qa_e rfl h) rfl g0
      replace h := qa_gr (b := 31) (j := 5) (q := 80) (qa_e rfl h) rfl hM rfl (by decide)
      replace h := qa_iload (n := 2) (q := 81) (qa_e rfl h) rfl g2
      replace h := qa_aaload (b := 32) (jn := s.1.toNatClampNeg) (q := 82) (qa_e rfl h) rfl hM rfl (by decide) (by decide +kernel)
      replace h := qa_push (z := (0 : Int32)) (q := 83) (qa_e rfl h) rfl (by decide)
      replace h := qa_push (z := (4 : Int32)) (q := 84) (qa_e rfl h) rfl (by decide)
      obtain ⟨m2, em2⟩ : ∃ x, x = qa_cp s.2 (9 + s.1.toNatClampNeg) 0 (32 + s.1.toNatClampNeg) 0 4 := ⟨_, rfl⟩
      obtain ⟨M, h, hM, es⟩ := qa_ac (sn := 0) (dn := 0) (nn := 4) (q := 87) (qa_e rfl h) rfl hM es (by decide) (by decide) (by decide)
      rw [← em2] at es
      obtain ⟨lv, h, g, T⟩ := qa_iinc (n := 2) (z := (1 : Int32)) (q := 90) (qa_e rfl h) rfl (by decide) g2
      replace g0 := T _ _ g0 (by decide) (Or.inr rfl)
      replace g1 := T _ _ g1 (by decide) (Or.inr rfl)
      replace g2 := g
      clear g T
      replace h := qa_goto (q := 63) (qa_e rfl h) rfl
      have e0 : mc_12_27_4_p63 N s = .inl ((s.1 + (1 : Int32)), m2) := by exact Eq.trans (if_pos c1) (Eq.trans (qa_ie em2) (rfl))
      rw [qa_whl e0]
      exact ih n hn (Nat.le_of_succ_le hF) ((s.1 + (1 : Int32)), m2) _ _ hM es g0 g1 g2 h
    · replace h := qa_ift (q := 93) (qa_e rfl h) rfl (qa_T_ge c1)
      have e0 : mc_12_27_4_p63 N s = .inr (s.1, s.2) := by exact Eq.trans (if_neg c1) (rfl)
      rw [qa_whr e0]
      exact ⟨_, _, q61_mono f F _ _ _ _ _ _ _ _ (Nat.le_of_succ_le hF) h, hM, es, g0, g1⟩
/-- BuriedBySevens$Cellar, become, (LBuriedBySevens$Cellar;)V -/
noncomputable def ma_12_27_4 (N : Nat) (σ : qa_S) : qa_S :=
  qa_in (qa_u σ 27 0 (σ 4 0)) fun m1 =>
  qa_in (qa_u m1 27 1 (m1 4 1)) fun m2 =>
  qa_in (qa_cp m2 5 0 28 0 7) fun m3 =>
  qa_in (qa_cp m3 6 0 29 0 7) fun m4 =>
  qa_in (qa_cp m4 7 0 30 0 7) fun m5 =>
  qa_in ((qa_wh (fun s => s) (mc_12_27_4_p63 N) N ((0 : Int32), m5))) fun r6 =>
  qa_in (qa_cp r6.2 24 0 47 0 6) fun m7 =>
  qa_in (qa_cp m7 25 0 48 0 6) fun m8 =>
  qa_in (qa_cp m8 26 0 49 0 6) fun m9 =>
  m9
theorem mb_12_27_4 {f N : Nat} (hN : f ≤ N) {M : q4_M} {r : Option Value × q4_M} {σ : qa_S} (hM : qa_O M) (es : qa_s M = σ) (h : q4_run f 12 0 (lv_args 0 [.ref 27, .ref 4]) [] M 0 0 = some r) : r.1 = none ∧ qa_O r.2 ∧ qa_s r.2 = (ma_12_27_4 N σ) := by
  obtain ⟨lv, el⟩ : ∃ l, l = lv_args 0 [.ref 27, .ref 4] := ⟨_, rfl⟩
  have g0 : q4_get lv 0 = some (.ref 27) := by rw [el]; rfl
  have g1 : q4_get lv 1 = some (.ref 4) := by rw [el]; rfl
  rw [← el] at h
  clear el
  replace h := qa_aload (n := 0) (q := 1) (qa_e rfl h) rfl g0
  replace h := qa_aload (n := 1) (q := 2) (qa_e rfl h) rfl g1
  replace h := qa_gi (j := 0) (q := 5) (qa_e rfl h) rfl hM es rfl (by decide)
  obtain ⟨m1, em1⟩ : ∃ x, x = qa_u σ 27 0 (σ 4 0) := ⟨_, rfl⟩
  obtain ⟨M, h, hM, es⟩ := qa_pf (j := 0) (q := 8) (qa_e rfl h) rfl hM es rfl (by decide)
  rw [← em1] at es
  replace h := qa_aload (n := 0) (q := 9) (qa_e rfl h) rfl g0
  replace h := qa_aload (n := 1) (q := 10) (qa_e rfl h) rfl g1
  replace h := qa_gi (j := 1) (q := 13) (qa_e rfl h) rfl hM es rfl (by decide)
  obtain ⟨m2, em2⟩ : ∃ x, x = qa_u m1 27 1 (m1 4 1) := ⟨_, rfl⟩
  obtain ⟨M, h, hM, es⟩ := qa_pf (j := 1) (q := 16) (qa_e rfl h) rfl hM es rfl (by decide)
  rw [← em2] at es
  replace h := qa_aload (n := 1) (q := 17) (qa_e rfl h) rfl g1
  replace h := qa_gr (b := 5) (j := 2) (q := 20) (qa_e rfl h) rfl hM rfl (by decide)
  replace h := qa_push (z := (0 : Int32)) (q := 21) (qa_e rfl h) rfl (by decide)
  replace h := qa_aload (n := 0) (q := 22) (qa_e rfl h) rfl g0
  replace h := qa_gr (b := 28) (j := 2) (q := 25) (qa_e rfl h) rfl hM rfl (by decide)
  replace h := qa_push (z := (0 : Int32)) (q := 26) (qa_e rfl h) rfl (by decide)
  replace h := qa_push (z := (7 : Int32)) (q := 28) (qa_e rfl h) rfl (by decide)
  obtain ⟨m3, em3⟩ : ∃ x, x = qa_cp m2 5 0 28 0 7 := ⟨_, rfl⟩
  obtain ⟨M, h, hM, es⟩ := qa_ac (sn := 0) (dn := 0) (nn := 7) (q := 31) (qa_e rfl h) rfl hM es (by decide) (by decide) (by decide)
  rw [← em3] at es
  replace h := qa_aload (n := 1) (q := 32) (qa_e rfl h) rfl g1
  replace h := qa_gr (b := 6) (j := 3) (q := 35) (qa_e rfl h) rfl hM rfl (by decide)
  replace h := qa_push (z := (0 : Int32)) (q := 36) (qa_e rfl h) rfl (by decide)
  replace h := qa_aload (n := 0) (q := 37) (qa_e rfl h) rfl g0
  replace h := qa_gr (b := 29) (j := 3) (q := 40) (qa_e rfl h) rfl hM rfl (by decide)
  replace h := qa_push (z := (0 : Int32)) (q := 41) (qa_e rfl h) rfl (by decide)
  replace h := qa_push (z := (7 : Int32)) (q := 43) (qa_e rfl h) rfl (by decide)
  obtain ⟨m4, em4⟩ : ∃ x, x = qa_cp m3 6 0 29 0 7 := ⟨_, rfl⟩
  obtain ⟨M, h, hM, es⟩ := qa_ac (sn := 0) (dn := 0) (nn := 7) (q := 46) (qa_e rfl h) rfl hM es (by decide) (by decide) (by decide)
  rw [← em4] at es
  replace h := qa_aload (n := 1) (q := 47) (qa_e rfl h) rfl g1
  replace h := qa_gr (b := 7) (j := 4) (q := 50) (qa_e rfl h) rfl hM rfl (by decide)
  replace h := qa_push (z := (0 : Int32)) (q := 51) (qa_e rfl h) rfl (by decide)
  replace h := qa_aload (n := 0) (q := 52) (qa_e rfl h) rfl g0
  replace h := qa_gr (b := 30) (j := 4) (q := 55) (qa_e rfl h) rfl hM rfl (by decide)
  replace h := qa_push (z := (0 : Int32)) (q := 56) (qa_e rfl h) rfl (by decide)
  replace h := qa_push (z := (7 : Int32)) (q := 58) (qa_e rfl h) rfl (by decide)
  obtain ⟨m5, em5⟩ : ∃ x, x = qa_cp m4 7 0 30 0 7 := ⟨_, rfl⟩
  obtain ⟨M, h, hM, es⟩ := qa_ac (sn := 0) (dn := 0) (nn := 7) (q := 61) (qa_e rfl h) rfl hM es (by decide) (by decide) (by decide)
  rw [← em5] at es
  replace h := qa_push (z := (0 : Int32)) (q := 62) (qa_e rfl h) rfl (by decide)
  obtain ⟨lv, h, g, T⟩ := qa_istore (n := 2) (q := 63) (qa_e rfl h) rfl
  replace g0 := T _ _ g0 (by decide) (Or.inr rfl)
  replace g1 := T _ _ g1 (by decide) (Or.inr rfl)
  have g2 := g
  clear g T
  obtain ⟨r6, er6⟩ : ∃ x, x = (qa_wh (fun s => s) (mc_12_27_4_p63 N) N ((0 : Int32), m5)) := ⟨_, rfl⟩
  have L := md_12_27_4_p63 (F := f) (N := N) (r := r) hN f N hN (Nat.le_refl f) ((0 : Int32), m5) _ _ hM es g0 g1 g2 h
  rw [← er6] at L
  obtain ⟨lv, M, h, hM, es, g0, g1⟩ := L
  replace h := qa_aload (n := 1) (q := 94) (qa_e rfl h) rfl g1
  replace h := qa_gr (b := 24) (j := 7) (q := 97) (qa_e rfl h) rfl hM rfl (by decide)
  replace h := qa_push (z := (0 : Int32)) (q := 98) (qa_e rfl h) rfl (by decide)
  replace h := qa_aload (n := 0) (q := 99) (qa_e rfl h) rfl g0
  replace h := qa_gr (b := 47) (j := 7) (q := 102) (qa_e rfl h) rfl hM rfl (by decide)
  replace h := qa_push (z := (0 : Int32)) (q := 103) (qa_e rfl h) rfl (by decide)
  replace h := qa_push (z := (6 : Int32)) (q := 105) (qa_e rfl h) rfl (by decide)
  obtain ⟨m7, em7⟩ : ∃ x, x = qa_cp r6.2 24 0 47 0 6 := ⟨_, rfl⟩
  obtain ⟨M, h, hM, es⟩ := qa_ac (sn := 0) (dn := 0) (nn := 6) (q := 108) (qa_e rfl h) rfl hM es (by decide) (by decide) (by decide)
  rw [← em7] at es
  replace h := qa_aload (n := 1) (q := 109) (qa_e rfl h) rfl g1
  replace h := qa_gr (b := 25) (j := 8) (q := 112) (qa_e rfl h) rfl hM rfl (by decide)
  replace h := qa_push (z := (0 : Int32)) (q := 113) (qa_e rfl h) rfl (by decide)
  replace h := qa_aload (n := 0) (q := 114) (qa_e rfl h) rfl g0
  replace h := qa_gr (b := 48) (j := 8) (q := 117) (qa_e rfl h) rfl hM rfl (by decide)
  replace h := qa_push (z := (0 : Int32)) (q := 118) (qa_e rfl h) rfl (by decide)
  replace h := qa_push (z := (6 : Int32)) (q := 120) (qa_e rfl h) rfl (by decide)
  obtain ⟨m8, em8⟩ : ∃ x, x = qa_cp m7 25 0 48 0 6 := ⟨_, rfl⟩
  obtain ⟨M, h, hM, es⟩ := qa_ac (sn := 0) (dn := 0) (nn := 6) (q := 123) (qa_e rfl h) rfl hM es (by decide) (by decide) (by decide)
  rw [← em8] at es
  replace h := qa_aload (n := 1) (q := 124) (qa_e rfl h) rfl g1
  replace h := qa_gr (b := 26) (j := 9) (q := 127) (qa_e rfl h) rfl hM rfl (by decide)
  replace h := qa_push (z := (0 : Int32)) (q := 128) (qa_e rfl h) rfl (by decide)
  replace h := qa_aload (n := 0) (q := 129) (qa_e rfl h) rfl g0
  replace h := qa_gr (b := 49) (j := 9) (q := 132) (qa_e rfl h) rfl hM rfl (by decide)
  replace h := qa_push (z := (0 : Int32)) (q := 133) (qa_e rfl h) rfl (by decide)
  replace h := qa_push (z := (6 : Int32)) (q := 135) (qa_e rfl h) rfl (by decide)
  obtain ⟨m9, em9⟩ : ∃ x, x = qa_cp m8 26 0 49 0 6 := ⟨_, rfl⟩
  obtain ⟨M, h, hM, es⟩ := qa_ac (sn := 0) (dn := 0) (nn := 6) (q := 138) (qa_e rfl h) rfl hM es (by decide) (by decide) (by decide)
  rw [← em9] at es
  have er := qa_rv (qa_e rfl h)
  subst er
  have e0 : ma_12_27_4 N σ = m9 := by exact Eq.trans (qa_ie em1) (Eq.trans (qa_ie em2) (Eq.trans (qa_ie em3) (Eq.trans (qa_ie em4) (Eq.trans (qa_ie em5) (Eq.trans (qa_ie er6) (Eq.trans (qa_ie em7) (Eq.trans (qa_ie em8) (Eq.trans (qa_ie em9) (rfl)))))))))
  rw [e0]
  exact ⟨rfl, hM, es⟩
/-- BuriedBySevens, image, ()I -/
noncomputable def ma_145_3 (N : Nat) (σ : qa_S) : Int32 × qa_S :=
  qa_in ((ma_12_27_4 N σ)) fun m1 =>
  qa_in (qa_u m1 3 17 (1 : Int32)) fun m2 =>
  ((m2 4 0), m2)
theorem mb_145_3 {f N : Nat} (hN : f ≤ N) {M : q4_M} {r : Option Value × q4_M} {σ : qa_S} (hM : qa_O M) (es : qa_s M = σ) (h : q4_run f 145 0 (lv_args 0 [.ref 3]) [] M 0 0 = some r) : r.1 = some (.int ((ma_145_3 N σ).1)) ∧ qa_O r.2 ∧ qa_s r.2 = (ma_145_3 N σ).2 := by
  obtain ⟨lv, el⟩ : ∃ l, l = lv_args 0 [.ref 3] := ⟨_, rfl⟩
  have g0 : q4_get lv 0 = some (.ref 3) := by rw [el]; rfl
  rw [← el] at h
  clear el
  replace h := qa_aload (n := 0) (q := 1) (qa_e rfl h) rfl g0
  replace h := qa_gr (b := 27) (j := 1) (q := 4) (qa_e rfl h) rfl hM rfl (by decide)
  replace h := qa_aload (n := 0) (q := 5) (qa_e rfl h) rfl g0
  replace h := qa_gr (b := 4) (j := 0) (q := 8) (qa_e rfl h) rfl hM rfl (by decide)
  obtain ⟨m1, em1⟩ : ∃ x, x = (ma_12_27_4 N σ) := ⟨_, rfl⟩
  obtain ⟨M, h, hM, es⟩ := qa_c0 (y := 12) (as := [.ref 27, .ref 4]) (rest := []) (i := .invokevirtual 12) (q := 11) (qa_e rfl h) (Or.inl rfl) rfl rfl (by decide) rfl (fun r hc => mb_12_27_4 hN hM es hc)
  rw [← em1] at es
  replace h := qa_aload (n := 0) (q := 12) (qa_e rfl h) rfl g0
  replace h := qa_push (z := (1 : Int32)) (q := 13) (qa_e rfl h) rfl (by decide)
  obtain ⟨m2, em2⟩ : ∃ x, x = qa_u m1 3 17 (1 : Int32) := ⟨_, rfl⟩
  obtain ⟨M, h, hM, es⟩ := qa_pf (j := 17) (q := 16) (qa_e rfl h) rfl hM es rfl (by decide)
  rw [← em2] at es
  replace h := qa_aload (n := 0) (q := 17) (qa_e rfl h) rfl g0
  replace h := qa_gr (b := 4) (j := 0) (q := 20) (qa_e rfl h) rfl hM rfl (by decide)
  replace h := qa_gi (j := 0) (q := 23) (qa_e rfl h) rfl hM es rfl (by decide)
  have er := qa_ri (qa_e rfl h)
  subst er
  have e0 : ma_145_3 N σ = ((m2 4 0), m2) := by exact Eq.trans (qa_ie em1) (Eq.trans (qa_ie em2) (rfl))
  rw [e0]
  exact ⟨rfl, hM, es⟩
noncomputable def mc_12_4_27_p63 (N : Nat) (s : Int32 × qa_S) : (Int32 × qa_S) ⊕ (Int32 × qa_S) :=
  if s.1 < (7 : Int32) then
    qa_in (qa_cp s.2 (32 + s.1.toNatClampNeg) 0 (9 + s.1.toNatClampNeg) 0 4) fun m2 =>
    .inl ((s.1 + (1 : Int32)), m2)
  else
    .inr (s.1, s.2)
theorem md_12_4_27_p63 {N F : Nat} {r : Option Value × q4_M} (hN : F ≤ N) : ∀ f n, f ≤ n → f ≤ F → ∀ (s : Int32 × qa_S) (lv : List (Nat × Value)) (M : q4_M), qa_O M → qa_s M = s.2 → q4_get lv 0 = some (.ref 4) → q4_get lv 1 = some (.ref 27) → q4_get lv 2 = some (.int (s.1)) → q4_run f 12 63 lv [] M 0 0 = some r → ∃ lv M, q4_run F 12 93 lv [] M 0 0 = some r ∧ qa_O M ∧ qa_s M = (qa_wh (fun s => s) (mc_12_4_27_p63 N) n s).2 ∧ q4_get lv 0 = some (.ref 4) ∧ q4_get lv 1 = some (.ref 27) := by
  intro f
  induction f with
  | zero => intro n _ _ s lv M hM es _ _ _ h; cases h
  | succ f ih =>
    intro n hn hF s lv M hM es g0 g1 g2 h
    obtain ⟨n, rfl⟩ : ∃ n1, n = n1 + 1 := ⟨n - 1, by omega⟩
    replace hn : f ≤ n := Nat.le_of_succ_le_succ hn
    have hN := Nat.le_trans (Nat.le_of_succ_le hF) hN
    replace h := qa_iload (n := 2) (q := 64) (qa_d rfl h) rfl g2
    replace h := qa_push (z := (7 : Int32)) (q := 66) (qa_e rfl h) rfl (by decide)
    by_cases c1 : s.1 < (7 : Int32)
    · replace h := qa_iff (q := 69) (qa_e rfl h) rfl (qa_F_ge c1)
      replace h := qa_aload (n := 1) (q := 70) (qa_e rfl h) rfl g1
      replace h := qa_gr (b := 31) (j := 5) (q := 73) (qa_e rfl h) rfl hM rfl (by decide)
      replace h := qa_iload (n := 2) (q := 74) (qa_e rfl h) rfl g2
      replace h := qa_aaload (b := 32) (jn := s.1.toNatClampNeg) (q := 75) (qa_e rfl h) rfl hM rfl (by decide) (by decide +kernel)
      replace h := qa_push (z := (0 : Int32)) (q := 76) (qa_e rfl h) rfl (by decide)
      replace h := qa_aload (n := 0) (q := 77) (qa_e rfl h) rfl g0
      replace h := qa_gr (b := 8) (j := 5) (q := 80) (qa_e rfl h) rfl hM rfl (by decide)
      replace h := qa_iload (n := 2) (q := 81) (qa_e rfl h) rfl g2
      replace h := qa_aaload (b := 9) (jn := s.1.toNatClampNeg) (q := 82) (qa_e rfl h) rfl hM rfl (by decide) (by decide +kernel)
      replace h := qa_push (z := (0 : Int32)) (q := 83) (qa_e rfl h) rfl (by decide)
      replace h := qa_push (z := (4 : Int32)) (q := 84) (qa_e rfl h) rfl (by decide)
      obtain ⟨m2, em2⟩ : ∃ x, x = qa_cp s.2 (32 + s.1.toNatClampNeg) 0 (9 + s.1.toNatClampNeg) 0 4 := ⟨_, rfl⟩
      obtain ⟨M, h, hM, es⟩ := qa_ac (sn := 0) (dn := 0) (nn := 4) (q := 87) (qa_e rfl h) rfl hM es (by decide) (by decide) (by decide)
      rw [← em2] at es
      obtain ⟨lv, h, g, T⟩ := qa_iinc (n := 2) (z := (1 : Int32)) (q := 90) (qa_e rfl h) rfl (by decide) g2
      replace g0 := T _ _ g0 (by decide) (Or.inr rfl)
      replace g1 := T _ _ g1 (by decide) (Or.inr rfl)
      replace g2 := g
      clear g T
      replace h := qa_goto (q := 63) (qa_e rfl h) rfl
      have e0 : mc_12_4_27_p63 N s = .inl ((s.1 + (1 : Int32)), m2) := by exact Eq.trans (if_pos c1) (Eq.trans (qa_ie em2) (rfl))
      rw [qa_whl e0]
      exact ih n hn (Nat.le_of_succ_le hF) ((s.1 + (1 : Int32)), m2) _ _ hM es g0 g1 g2 h
    · replace h := qa_ift (q := 93) (qa_e rfl h) rfl (qa_T_ge c1)
      have e0 : mc_12_4_27_p63 N s = .inr (s.1, s.2) := by exact Eq.trans (if_neg c1) (rfl)
      rw [qa_whr e0]
      exact ⟨_, _, q61_mono f F _ _ _ _ _ _ _ _ (Nat.le_of_succ_le hF) h, hM, es, g0, g1⟩
/-- BuriedBySevens$Cellar, become, (LBuriedBySevens$Cellar;)V -/
noncomputable def ma_12_4_27 (N : Nat) (σ : qa_S) : qa_S :=
  qa_in (qa_u σ 4 0 (σ 27 0)) fun m1 =>
  qa_in (qa_u m1 4 1 (m1 27 1)) fun m2 =>
  qa_in (qa_cp m2 28 0 5 0 7) fun m3 =>
  qa_in (qa_cp m3 29 0 6 0 7) fun m4 =>
  qa_in (qa_cp m4 30 0 7 0 7) fun m5 =>
  qa_in ((qa_wh (fun s => s) (mc_12_4_27_p63 N) N ((0 : Int32), m5))) fun r6 =>
  qa_in (qa_cp r6.2 47 0 24 0 6) fun m7 =>
  qa_in (qa_cp m7 48 0 25 0 6) fun m8 =>
  qa_in (qa_cp m8 49 0 26 0 6) fun m9 =>
  m9
theorem mb_12_4_27 {f N : Nat} (hN : f ≤ N) {M : q4_M} {r : Option Value × q4_M} {σ : qa_S} (hM : qa_O M) (es : qa_s M = σ) (h : q4_run f 12 0 (lv_args 0 [.ref 4, .ref 27]) [] M 0 0 = some r) : r.1 = none ∧ qa_O r.2 ∧ qa_s r.2 = (ma_12_4_27 N σ) := by
  obtain ⟨lv, el⟩ : ∃ l, l = lv_args 0 [.ref 4, .ref 27] := ⟨_, rfl⟩
  have g0 : q4_get lv 0 = some (.ref 4) := by rw [el]; rfl
  have g1 : q4_get lv 1 = some (.ref 27) := by rw [el]; rfl
  rw [← el] at h
  clear el
  replace h := qa_aload (n := 0) (q := 1) (qa_e rfl h) rfl g0
  replace h := qa_aload (n := 1) (q := 2) (qa_e rfl h) rfl g1
  replace h := qa_gi (j := 0) (q := 5) (qa_e rfl h) rfl hM es rfl (by decide)
  obtain ⟨m1, em1⟩ : ∃ x, x = qa_u σ 4 0 (σ 27 0) := ⟨_, rfl⟩
  obtain ⟨M, h, hM, es⟩ := qa_pf (j := 0) (q := 8) (qa_e rfl h) rfl hM es rfl (by decide)
  rw [← em1] at es
  replace h := qa_aload (n := 0) (q := 9) (qa_e rfl h) rfl g0
  replace h := qa_aload (n := 1) (q := 10) (qa_e rfl h) rfl g1
  replace h := qa_gi (j := 1) (q := 13) (qa_e rfl h) rfl hM es rfl (by decide)
  obtain ⟨m2, em2⟩ : ∃ x, x = qa_u m1 4 1 (m1 27 1) := ⟨_, rfl⟩
  obtain ⟨M, h, hM, es⟩ := qa_pf (j := 1) (q := 16) (qa_e rfl h) rfl hM es rfl (by decide)
  rw [← em2] at es
  replace h := qa_aload (n := 1) (q := 17) (qa_e rfl h) rfl g1
  replace h := qa_gr (b := 28) (j := 2) (q := 20) (qa_e rfl h) rfl hM rfl (by decide)
  replace h := qa_push (z := (0 : Int32)) (q := 21) (qa_e rfl h) rfl (by decide)
  replace h := qa_aload (n := 0) (q := 22) (qa_e rfl h) rfl g0
  replace h := qa_gr (b := 5) (j := 2) (q := 25) (qa_e rfl h) rfl hM rfl (by decide)
  replace h := qa_push (z := (0 : Int32)) (q := 26) (qa_e rfl h) rfl (by decide)
  replace h := qa_push (z := (7 : Int32)) (q := 28) (qa_e rfl h) rfl (by decide)
  obtain ⟨m3, em3⟩ : ∃ x, x = qa_cp m2 28 0 5 0 7 := ⟨_, rfl⟩
  obtain ⟨M, h, hM, es⟩ := qa_ac (sn := 0) (dn := 0) (nn := 7) (q := 31) (qa_e rfl h) rfl hM es (by decide) (by decide) (by decide)
  rw [← em3] at es
  replace h := qa_aload (n := 1) (q := 32) (qa_e rfl h) rfl g1
  replace h := qa_gr (b := 29) (j := 3) (q := 35) (qa_e rfl h) rfl hM rfl (by decide)
  replace h := qa_push (z := (0 : Int32)) (q := 36) (qa_e rfl h) rfl (by decide)
  replace h := qa_aload (n := 0) (q := 37) (qa_e rfl h) rfl g0
  replace h := qa_gr (b := 6) (j := 3) (q := 40) (qa_e rfl h) rfl hM rfl (by decide)
  replace h := qa_push (z := (0 : Int32)) (q := 41) (qa_e rfl h) rfl (by decide)
  replace h := qa_push (z := (7 : Int32)) (q := 43) (qa_e rfl h) rfl (by decide)
  obtain ⟨m4, em4⟩ : ∃ x, x = qa_cp m3 29 0 6 0 7 := ⟨_, rfl⟩
  obtain ⟨M, h, hM, es⟩ := qa_ac (sn := 0) (dn := 0) (nn := 7) (q := 46) (qa_e rfl h) rfl hM es (by decide) (by decide) (by decide)
  rw [← em4] at es
  replace h := qa_aload (n := 1) (q := 47) (qa_e rfl h) rfl g1
  replace h := qa_gr (b := 30) (j := 4) (q := 50) (qa_e rfl h) rfl hM rfl (by decide)
  replace h := qa_push (z := (0 : Int32)) (q := 51) (qa_e rfl h) rfl (by decide)
  replace h := qa_aload (n := 0) (q := 52) (qa_e rfl h) rfl g0
  replace h := qa_gr (b := 7) (j := 4) (q := 55) (qa_e rfl h) rfl hM rfl (by decide)
  replace h := qa_push (z := (0 : Int32)) (q := 56) (qa_e rfl h) rfl (by decide)
  replace h := qa_push (z := (7 : Int32)) (q := 58) (qa_e rfl h) rfl (by decide)
  obtain ⟨m5, em5⟩ : ∃ x, x = qa_cp m4 30 0 7 0 7 := ⟨_, rfl⟩
  obtain ⟨M, h, hM, es⟩ := qa_ac (sn := 0) (dn := 0) (nn := 7) (q := 61) (qa_e rfl h) rfl hM es (by decide) (by decide) (by decide)
  rw [← em5] at es
  replace h := qa_push (z := (0 : Int32)) (q := 62) (qa_e rfl h) rfl (by decide)
  obtain ⟨lv, h, g, T⟩ := qa_istore (n := 2) (q := 63) (qa_e rfl h) rfl
  replace g0 := T _ _ g0 (by decide) (Or.inr rfl)
  replace g1 := T _ _ g1 (by decide) (Or.inr rfl)
  have g2 := g
  clear g T
  obtain ⟨r6, er6⟩ : ∃ x, x = (qa_wh (fun s => s) (mc_12_4_27_p63 N) N ((0 : Int32), m5)) := ⟨_, rfl⟩
  have L := md_12_4_27_p63 (F := f) (N := N) (r := r) hN f N hN (Nat.le_refl f) ((0 : Int32), m5) _ _ hM es g0 g1 g2 h
  rw [← er6] at L
  obtain ⟨lv, M, h, hM, es, g0, g1⟩ := L
  replace h := qa_aload (n := 1) (q := 94) (qa_e rfl h) rfl g1
  replace h := qa_gr (b := 47) (j := 7) (q := 97) (qa_e rfl h) rfl hM rfl (by decide)
  replace h := qa_push (z := (0 : Int32)) (q := 98) (qa_e rfl h) rfl (by decide)
  replace h := qa_aload (n := 0) (q := 99) (qa_e rfl h) rfl g0
  replace h := qa_gr (b := 24) (j := 7) (q := 102) (qa_e rfl h) rfl hM rfl (by decide)
  replace h := qa_push (z := (0 : Int32)) (q := 103) (qa_e rfl h) rfl (by decide)
  replace h := qa_push (z := (6 : Int32)) (q := 105) (qa_e rfl h) rfl (by decide)
  obtain ⟨m7, em7⟩ : ∃ x, x = qa_cp r6.2 47 0 24 0 6 := ⟨_, rfl⟩
  obtain ⟨M, h, hM, es⟩ := qa_ac (sn := 0) (dn := 0) (nn := 6) (q := 108) (qa_e rfl h) rfl hM es (by decide) (by decide) (by decide)
  rw [← em7] at es
  replace h := qa_aload (n := 1) (q := 109) (qa_e rfl h) rfl g1
  replace h := qa_gr (b := 48) (j := 8) (q := 112) (qa_e rfl h) rfl hM rfl (by decide)
  replace h := qa_push (z := (0 : Int32)) (q := 113) (qa_e rfl h) rfl (by decide)
  replace h := qa_aload (n := 0) (q := 114) (qa_e rfl h) rfl g0
  replace h := qa_gr (b := 25) (j := 8) (q := 117) (qa_e rfl h) rfl hM rfl (by decide)
  replace h := qa_push (z := (0 : Int32)) (q := 118) (qa_e rfl h) rfl (by decide)
  replace h := qa_push (z := (6 : Int32)) (q := 120) (qa_e rfl h) rfl (by decide)
  obtain ⟨m8, em8⟩ : ∃ x, x = qa_cp m7 48 0 25 0 6 := ⟨_, rfl⟩
  obtain ⟨M, h, hM, es⟩ := qa_ac (sn := 0) (dn := 0) (nn := 6) (q := 123) (qa_e rfl h) rfl hM es (by decide) (by decide) (by decide)
  rw [← em8] at es
  replace h := qa_aload (n := 1) (q := 124) (qa_e rfl h) rfl g1
  replace h := qa_gr (b := 49) (j := 9) (q := 127) (qa_e rfl h) rfl hM rfl (by decide)
  replace h := qa_push (z := (0 : Int32)) (q := 128) (qa_e rfl h) rfl (by decide)
  replace h := qa_aload (n := 0) (q := 129) (qa_e rfl h) rfl g0
  replace h := qa_gr (b := 26) (j := 9) (q := 132) (qa_e rfl h) rfl hM rfl (by decide)
  replace h := qa_push (z := (0 : Int32)) (q := 133) (qa_e rfl h) rfl (by decide)
  replace h := qa_push (z := (6 : Int32)) (q := 135) (qa_e rfl h) rfl (by decide)
  obtain ⟨m9, em9⟩ : ∃ x, x = qa_cp m8 49 0 26 0 6 := ⟨_, rfl⟩
  obtain ⟨M, h, hM, es⟩ := qa_ac (sn := 0) (dn := 0) (nn := 6) (q := 138) (qa_e rfl h) rfl hM es (by decide) (by decide) (by decide)
  rw [← em9] at es
  have er := qa_rv (qa_e rfl h)
  subst er
  have e0 : ma_12_4_27 N σ = m9 := by exact Eq.trans (qa_ie em1) (Eq.trans (qa_ie em2) (Eq.trans (qa_ie em3) (Eq.trans (qa_ie em4) (Eq.trans (qa_ie em5) (Eq.trans (qa_ie er6) (Eq.trans (qa_ie em7) (Eq.trans (qa_ie em8) (Eq.trans (qa_ie em9) (rfl)))))))))
  rw [e0]
  exact ⟨rfl, hM, es⟩
/-- BuriedBySevens, restore, ()I -/
noncomputable def ma_146_3 (N : Nat) (σ : qa_S) : Int32 × qa_S :=
  if (σ 3 17) = (0 : Int32) then
    qa_in ((ma_9_3 (-3 : Int32) σ)) fun r2 =>
    (r2.1, r2.2)
  else
    qa_in ((ma_12_4_27 N σ)) fun m3 =>
    qa_in ((ma_27_3 N m3)) fun m4 =>
    ((m4 4 0), m4)
theorem mb_146_3 {f N : Nat} (hN : f ≤ N) {M : q4_M} {r : Option Value × q4_M} {σ : qa_S} (hM : qa_O M) (es : qa_s M = σ) (h : q4_run f 146 0 (lv_args 0 [.ref 3]) [] M 0 0 = some r) : r.1 = some (.int ((ma_146_3 N σ).1)) ∧ qa_O r.2 ∧ qa_s r.2 = (ma_146_3 N σ).2 := by
  obtain ⟨lv, el⟩ : ∃ l, l = lv_args 0 [.ref 3] := ⟨_, rfl⟩
  have g0 : q4_get lv 0 = some (.ref 3) := by rw [el]; rfl
  rw [← el] at h
  clear el
  replace h := qa_aload (n := 0) (q := 1) (qa_e rfl h) rfl g0
  replace h := qa_gi (j := 17) (q := 4) (qa_e rfl h) rfl hM es rfl (by decide)
  by_cases c1 : (σ 3 17) = (0 : Int32)
  · replace h := qa_icf (q := 7) (qa_e rfl h) rfl (qa_F_ne c1)
    replace h := qa_aload (n := 0) (q := 8) (qa_e rfl h) rfl g0
    replace h := qa_push (z := (-3 : Int32)) (q := 10) (qa_e rfl h) rfl (by decide)
    obtain ⟨r2, er2⟩ : ∃ x, x = (ma_9_3 (-3 : Int32) σ) := ⟨_, rfl⟩
    obtain ⟨M, h, hM, es⟩ := qa_c1 (y := 9) (as := [.ref 3, .int ((-3 : Int32))]) (rest := []) (i := .invokevirtual 9) (q := 13) (qa_e rfl h) (Or.inl rfl) rfl rfl (by decide) rfl (fun r hc => mb_9_3 hM es hc)
    rw [← er2] at h es
    have er := qa_ri (qa_e rfl h)
    subst er
    have e0 : ma_146_3 N σ = (r2.1, r2.2) := by exact Eq.trans (if_pos c1) (Eq.trans (qa_ie er2) (rfl))
    rw [e0]
    exact ⟨rfl, hM, es⟩
  · replace h := qa_ict (q := 14) (qa_e rfl h) rfl (qa_T_ne c1)
    replace h := qa_aload (n := 0) (q := 15) (qa_e rfl h) rfl g0
    replace h := qa_gr (b := 4) (j := 0) (q := 18) (qa_e rfl h) rfl hM rfl (by decide)
    replace h := qa_aload (n := 0) (q := 19) (qa_e rfl h) rfl g0
    replace h := qa_gr (b := 27) (j := 1) (q := 22) (qa_e rfl h) rfl hM rfl (by decide)
    obtain ⟨m3, em3⟩ : ∃ x, x = (ma_12_4_27 N σ) := ⟨_, rfl⟩
    obtain ⟨M, h, hM, es⟩ := qa_c0 (y := 12) (as := [.ref 4, .ref 27]) (rest := []) (i := .invokevirtual 12) (q := 25) (qa_e rfl h) (Or.inl rfl) rfl rfl (by decide) rfl (fun r hc => mb_12_4_27 hN hM es hc)
    rw [← em3] at es
    replace h := qa_aload (n := 0) (q := 26) (qa_e rfl h) rfl g0
    obtain ⟨m4, em4⟩ : ∃ x, x = (ma_27_3 N m3) := ⟨_, rfl⟩
    obtain ⟨M, h, hM, es⟩ := qa_c0 (y := 27) (as := [.ref 3]) (rest := []) (i := .invokevirtual 27) (q := 29) (qa_e rfl h) (Or.inl rfl) rfl rfl (by decide) rfl (fun r hc => mb_27_3 hN hM es hc)
    rw [← em4] at es
    replace h := qa_aload (n := 0) (q := 30) (qa_e rfl h) rfl g0
    replace h := qa_gr (b := 4) (j := 0) (q := 33) (qa_e rfl h) rfl hM rfl (by decide)
    replace h := qa_gi (j := 0) (q := 36) (qa_e rfl h) rfl hM es rfl (by decide)
    have er := qa_ri (qa_e rfl h)
    subst er
    have e0 : ma_146_3 N σ = ((m4 4 0), m4) := by exact Eq.trans (if_neg c1) (Eq.trans (qa_ie em3) (Eq.trans (qa_ie em4) (rfl)))
    rw [e0]
    exact ⟨rfl, hM, es⟩
noncomputable def mc_148_4_p4 (N : Nat) (σ : qa_S) (s : Int32 × Int32) : (Int32 × Int32) ⊕ (Int32 × Int32) :=
  if s.1 < (σ 4 0) then
    .inl ((s.1 + (1 : Int32)), (s.2 + (σ 7 s.1.toNatClampNeg)))
  else
    .inr (s.1, s.2)
theorem md_148_4_p4 {N F : Nat} {r : Option Value × q4_M} {σ : qa_S} (hN : F ≤ N) : ∀ f n, f ≤ n → f ≤ F → ∀ (s : Int32 × Int32) (lv : List (Nat × Value)) (M : q4_M), qa_O M → qa_s M = σ → q4_get lv 0 = some (.ref 4) → q4_get lv 1 = some (.int (s.2)) → q4_get lv 2 = some (.int (s.1)) → q4_run f 148 4 lv [] M 0 0 = some r → ∃ lv M, q4_run F 148 27 lv [] M 0 0 = some r ∧ qa_O M ∧ qa_s M = σ ∧ q4_get lv 1 = some (.int ((qa_wh (fun s => s) (mc_148_4_p4 N σ) n s).2)) := by
  intro f
  induction f with
  | zero => intro n _ _ s lv M hM es _ _ _ h; cases h
  | succ f ih =>
    intro n hn hF s lv M hM es g0 g1 g2 h
    obtain ⟨n, rfl⟩ : ∃ n1, n = n1 + 1 := ⟨n - 1, by omega⟩
    replace hn : f ≤ n := Nat.le_of_succ_le_succ hn
    have hN := Nat.le_trans (Nat.le_of_succ_le hF) hN
    replace h := qa_iload (n := 2) (q := 5) (qa_d rfl h) rfl g2
    replace h := qa_aload (n := 0) (q := 6) (qa_e rfl h) rfl g0
    replace h := qa_gi (j := 0) (q := 9) (qa_e rfl h) rfl hM es rfl (by decide)
    by_cases c1 : s.1 < (σ 4 0)
    · replace h := qa_iff (q := 12) (qa_e rfl h) rfl (qa_F_ge c1)
      replace h := qa_iload (n := 1) (q := 13) (qa_e rfl h) rfl g1
      replace h := qa_aload (n := 0) (q := 14) (qa_e rfl h) rfl g0
      replace h := qa_gr (b := 7) (j := 4) (q := 17) (qa_e rfl h) rfl hM rfl (by decide)
      replace h := qa_iload (n := 2) (q := 18) (qa_e rfl h) rfl g2
      replace h := qa_iaload (jn := s.1.toNatClampNeg) (q := 19) (qa_e rfl h) rfl hM es rfl
      replace h := qa_iadd (q := 20) (qa_e rfl h) rfl
      obtain ⟨lv, h, g, T⟩ := qa_istore (n := 1) (q := 21) (qa_e rfl h) rfl
      replace g0 := T _ _ g0 (by decide) (Or.inr rfl)
      replace g2 := T _ _ g2 (by decide) (Or.inr rfl)
      have g1 := g
      clear g T
      obtain ⟨lv, h, g, T⟩ := qa_iinc (n := 2) (z := (1 : Int32)) (q := 24) (qa_e rfl h) rfl (by decide) g2
      replace g0 := T _ _ g0 (by decide) (Or.inr rfl)
      replace g1 := T _ _ g1 (by decide) (Or.inr rfl)
      replace g2 := g
      clear g T
      replace h := qa_goto (q := 4) (qa_e rfl h) rfl
      have e0 : mc_148_4_p4 N σ s = .inl ((s.1 + (1 : Int32)), (s.2 + (σ 7 s.1.toNatClampNeg))) := by exact Eq.trans (if_pos c1) (rfl)
      rw [qa_whl e0]
      exact ih n hn (Nat.le_of_succ_le hF) ((s.1 + (1 : Int32)), (s.2 + (σ 7 s.1.toNatClampNeg))) _ _ hM es g0 g1 g2 h
    · replace h := qa_ift (q := 27) (qa_e rfl h) rfl (qa_T_ge c1)
      have e0 : mc_148_4_p4 N σ s = .inr (s.1, s.2) := by exact Eq.trans (if_neg c1) (rfl)
      rw [qa_whr e0]
      exact ⟨_, _, q61_mono f F _ _ _ _ _ _ _ _ (Nat.le_of_succ_le hF) h, hM, es, g1⟩
/-- BuriedBySevens$Cellar, allShares, ()I -/
noncomputable def ma_148_4 (N : Nat) (σ : qa_S) : Int32 :=
  qa_in ((qa_wh (fun s => s) (mc_148_4_p4 N σ) N ((0 : Int32), (0 : Int32)))) fun r1 =>
  r1.2
theorem mb_148_4 {f N : Nat} (hN : f ≤ N) {M : q4_M} {r : Option Value × q4_M} {σ : qa_S} (hM : qa_O M) (es : qa_s M = σ) (h : q4_run f 148 0 (lv_args 0 [.ref 4]) [] M 0 0 = some r) : r.1 = some (.int ((ma_148_4 N σ))) ∧ qa_O r.2 ∧ qa_s r.2 = σ := by
  obtain ⟨lv, el⟩ : ∃ l, l = lv_args 0 [.ref 4] := ⟨_, rfl⟩
  have g0 : q4_get lv 0 = some (.ref 4) := by rw [el]; rfl
  rw [← el] at h
  clear el
  replace h := qa_push (z := (0 : Int32)) (q := 1) (qa_e rfl h) rfl (by decide)
  obtain ⟨lv, h, g, T⟩ := qa_istore (n := 1) (q := 2) (qa_e rfl h) rfl
  replace g0 := T _ _ g0 (by decide) (Or.inr rfl)
  have g1 := g
  clear g T
  replace h := qa_push (z := (0 : Int32)) (q := 3) (qa_e rfl h) rfl (by decide)
  obtain ⟨lv, h, g, T⟩ := qa_istore (n := 2) (q := 4) (qa_e rfl h) rfl
  replace g0 := T _ _ g0 (by decide) (Or.inr rfl)
  replace g1 := T _ _ g1 (by decide) (Or.inr rfl)
  have g2 := g
  clear g T
  obtain ⟨r1, er1⟩ : ∃ x, x = (qa_wh (fun s => s) (mc_148_4_p4 N σ) N ((0 : Int32), (0 : Int32))) := ⟨_, rfl⟩
  have L := md_148_4_p4 (σ := σ) (F := f) (N := N) (r := r) hN f N hN (Nat.le_refl f) ((0 : Int32), (0 : Int32)) _ _ hM es g0 g1 g2 h
  rw [← er1] at L
  obtain ⟨lv, M, h, hM, es, g1⟩ := L
  replace h := qa_iload (n := 1) (q := 28) (qa_e rfl h) rfl g1
  have er := qa_ri (qa_e rfl h)
  subst er
  have e0 : ma_148_4 N σ = r1.2 := by exact Eq.trans (qa_ie er1) (rfl)
  rw [e0]
  exact ⟨rfl, hM, es⟩
