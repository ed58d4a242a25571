/-- java/util/Arrays, fill, ([II)V -/
noncomputable def ma_68_82 (N : Nat) (a1 : Int32) (σ : qa_S) : qa_S :=
  qa_in ((qa_wh (fun s => s) (mc_68_82_p5 N a1 (4 : Int32)) N ((0 : Int32), σ))) fun r1 =>
  r1.2
theorem mb_68_82 {f N : Nat} (hN : f ≤ N) {M : q4_M} {r : Option Value × q4_M} {σ : qa_S} {a1 : Int32} (hM : qa_O M) (es : qa_s M = σ) (h : q4_run f 68 0 (lv_args 0 [.ref 82, .int (a1)]) [] M 0 0 = some r) : r.1 = none ∧ qa_O r.2 ∧ qa_s r.2 = (ma_68_82 N a1 σ) := by
  obtain ⟨lv, el⟩ : ∃ l, l = lv_args 0 [.ref 82, .int (a1)] := ⟨_, rfl⟩
  have g0 : q4_get lv 0 = some (.ref 82) := by rw [el]; rfl
  have g1 : q4_get lv 1 = some (.int (a1)) := by rw [el]; rfl
  rw [← el] at h
  clear el
  replace h := qa_push (z := (0 : Int32)) (q := 1) (qa_e rfl h) rfl (by decide)
  obtain ⟨lv, h, g, T⟩ := qa_istore (n := 2) (q := 2) (qa_e rfl h) rfl
  replace g0 := T _ _ g0 (by decide) (Or.inr rfl)
  replace g1 := T _ _ g1 (by decide) (Or.inr rfl)
  have g2 := g
  clear g T
  replace h := qa_aload (n := 0) (q := 3) (qa_e rfl h) rfl g0
  replace h := qa_alen (z := (4 : Int32)) (q := 4) (qa_e rfl h) rfl hM (by decide) (by decide)
  obtain ⟨lv, h, g, T⟩ := qa_istore (n := 3) (q := 5) (qa_e rfl h) rfl
  replace g0 := T _ _ g0 (by decide) (Or.inr rfl)
  replace g1 := T _ _ g1 (by decide) (Or.inr rfl)
  replace g2 := T _ _ g2 (by decide) (Or.inr rfl)
  have g3 := g
  clear g T
  obtain ⟨r1, er1⟩ : ∃ x, x = (qa_wh (fun s => s) (mc_68_82_p5 N a1 (4 : Int32)) N ((0 : Int32), σ)) := ⟨_, rfl⟩
  have L := md_68_82_p5 (l1 := a1) (l3 := (4 : Int32)) (F := f) (N := N) (r := r) hN f N hN (Nat.le_refl f) ((0 : Int32), σ) _ _ hM es g0 g1 g2 g3 h
  rw [← er1] at L
  obtain ⟨lv, M, h, hM, es⟩ := L
  have er := qa_rv (qa_e rfl h)
  subst er
  have e0 : ma_68_82 N a1 σ = r1.2 := by exact Eq.trans (qa_ie er1) (rfl)
  rw [e0]
  exact ⟨rfl, hM, es⟩
/-- BuriedBySevens$Window, open, ()V -/
noncomputable def ma_67_80 (N : Nat) (σ : qa_S) : qa_S :=
  qa_in ((ma_68_81 N (0 : Int32) σ)) fun m1 =>
  qa_in ((ma_68_82 N (99 : Int32) m1)) fun m2 =>
  m2
theorem mb_67_80 {f N : Nat} (hN : f ≤ N) {M : q4_M} {r : Option Value × q4_M} {σ : qa_S} (hM : qa_O M) (es : qa_s M = σ) (h : q4_run f 67 0 (lv_args 0 [.ref 80]) [] M 0 0 = some r) : r.1 = none ∧ qa_O r.2 ∧ qa_s r.2 = (ma_67_80 N σ) := by
  obtain ⟨lv, el⟩ : ∃ l, l = lv_args 0 [.ref 80] := ⟨_, rfl⟩
  have g0 : q4_get lv 0 = some (.ref 80) := by rw [el]; rfl
  rw [← el] at h
  clear el
  replace h := qa_aload (n := 0) (q := 1) (qa_e rfl h) rfl g0
  replace h := qa_gr (b := 81) (j := 0) (q := 4) (qa_e rfl h) rfl hM rfl (by decide)
  replace h := qa_push (z := (0 : Int32)) (q := 5) (qa_e rfl h) rfl (by decide)
  obtain ⟨m1, em1⟩ : ∃ x, x = (ma_68_81 N (0 : Int32) σ) := ⟨_, rfl⟩
  obtain ⟨M, h, hM, es⟩ := qa_c0 (y := 68) (as := [.ref 81, .int ((0 : Int32))]) (rest := []) (i := .invokestatic 68) (q := 8) (qa_e rfl h) (Or.inr rfl) rfl rfl (by decide) rfl (fun r hc => mb_68_81 hN hM es hc)
  rw [← em1] at es
  replace h := qa_aload (n := 0) (q := 9) (qa_e rfl h) rfl g0
  replace h := qa_gr (b := 82) (j := 1) (q := 12) (qa_e rfl h) rfl hM rfl (by decide)
  replace h := qa_push (z := (99 : Int32)) (q := 14) (qa_e rfl h) rfl (by decide)
  obtain ⟨m2, em2⟩ : ∃ x, x = (ma_68_82 N (99 : Int32) m1) := ⟨_, rfl⟩
  obtain ⟨M, h, hM, es⟩ := qa_c0 (y := 68) (as := [.ref 82, .int ((99 : Int32))]) (rest := []) (i := .invokestatic 68) (q := 17) (qa_e rfl h) (Or.inr rfl) rfl rfl (by decide) rfl (fun r hc => mb_68_82 hN hM es hc)
  rw [← em2] at es
  have er := qa_rv (qa_e rfl h)
  subst er
  have e0 : ma_67_80 N σ = m2 := by exact Eq.trans (qa_ie em1) (Eq.trans (qa_ie em2) (rfl))
  rw [e0]
  exact ⟨rfl, hM, es⟩
/-- java/lang/Math, max, (II)I -/
noncomputable def ma_70 (a0 : Int32) (a1 : Int32) : Int32 :=
  (if a0 < a1 then a1 else a0)
theorem mb_70 {f : Nat} {M : q4_M} {r : Option Value × q4_M} {σ : qa_S} {a0 : Int32} {a1 : Int32} (hM : qa_O M) (es : qa_s M = σ) (h : q4_run f 70 0 (lv_args 0 [.int (a0), .int (a1)]) [] M 0 0 = some r) : r.1 = some (.int ((ma_70 a0 a1))) ∧ qa_O r.2 ∧ qa_s r.2 = σ := by
  obtain ⟨lv, el⟩ : ∃ l, l = lv_args 0 [.int (a0), .int (a1)] := ⟨_, rfl⟩
  have g0 : q4_get lv 0 = some (.int (a0)) := by rw [el]; rfl
  have g1 : q4_get lv 1 = some (.int (a1)) := by rw [el]; rfl
  rw [← el] at h
  clear el
  replace h := qa_iload (n := 0) (q := 1) (qa_e rfl h) rfl g0
  replace h := qa_iload (n := 1) (q := 2) (qa_e rfl h) rfl g1
  obtain ⟨lv, M, h, hM, es⟩ : ∃ lv M, q4_run f 70 10 lv [.int ((if a0 < a1 then a1 else a0))] M 0 0 = some r ∧ qa_O M ∧ qa_s M = σ := by
    by_cases c1 : a0 < a1
    · replace h := qa_ift (q := 9) (qa_e rfl h) rfl (qa_T_lt c1)
      replace h := qa_iload (n := 1) (q := 10) (qa_e rfl h) rfl g1
      exact ⟨lv, M, (qa_hi1 c1 h), hM, es⟩
    · replace h := qa_iff (q := 5) (qa_e rfl h) rfl (qa_F_lt c1)
      replace h := qa_iload (n := 0) (q := 6) (qa_e rfl h) rfl g0
      replace h := qa_goto (q := 10) (qa_e rfl h) rfl
      exact ⟨lv, M, (qa_hi0 c1 h), hM, es⟩
  have er := qa_ri (qa_e rfl h)
  subst er
  have e0 : ma_70 a0 a1 = (if a0 < a1 then a1 else a0) := by exact rfl
  rw [e0]
  exact ⟨rfl, hM, es⟩
/-- java/lang/Math, min, (II)I -/
noncomputable def ma_71 (a0 : Int32) (a1 : Int32) : Int32 :=
  (if a1 < a0 then a1 else a0)
theorem mb_71 {f : Nat} {M : q4_M} {r : Option Value × q4_M} {σ : qa_S} {a0 : Int32} {a1 : Int32} (hM : qa_O M) (es : qa_s M = σ) (h : q4_run f 71 0 (lv_args 0 [.int (a0), .int (a1)]) [] M 0 0 = some r) : r.1 = some (.int ((ma_71 a0 a1))) ∧ qa_O r.2 ∧ qa_s r.2 = σ := by
  obtain ⟨lv, el⟩ : ∃ l, l = lv_args 0 [.int (a0), .int (a1)] := ⟨_, rfl⟩
  have g0 : q4_get lv 0 = some (.int (a0)) := by rw [el]; rfl
  have g1 : q4_get lv 1 = some (.int (a1)) := by rw [el]; rfl
  rw [← el] at h
  clear el
  replace h := qa_iload (n := 0) (q := 1) (qa_e rfl h) rfl g0
  replace h := qa_iload (n := 1) (q := 2) (qa_e rfl h) rfl g1
  obtain ⟨lv, M, h, hM, es⟩ : ∃ lv M, q4_run f 71 10 lv [.int ((if a1 < a0 then a1 else a0))] M 0 0 = some r ∧ qa_O M ∧ qa_s M = σ := by
    by_cases c1 : a1 < a0
    · replace h := qa_ift (q := 9) (qa_e rfl h) rfl (qa_T_gt c1)
      replace h := qa_iload (n := 1) (q := 10) (qa_e rfl h) rfl g1
      exact ⟨lv, M, (qa_hi1 c1 h), hM, es⟩
    · replace h := qa_iff (q := 5) (qa_e rfl h) rfl (qa_F_gt c1)
      replace h := qa_iload (n := 0) (q := 6) (qa_e rfl h) rfl g0
      replace h := qa_goto (q := 10) (qa_e rfl h) rfl
      exact ⟨lv, M, (qa_hi0 c1 h), hM, es⟩
  have er := qa_ri (qa_e rfl h)
  subst er
  have e0 : ma_71 a0 a1 = (if a1 < a0 then a1 else a0) := by exact rfl
  rw [e0]
  exact ⟨rfl, hM, es⟩
/-- BuriedBySevens$Window, narrow, (III)V -/
noncomputable def ma_69_80 (a1 : Int32) (a2 : Int32) (a3 : Int32) (σ : qa_S) : qa_S :=
  qa_in (qa_u σ 81 a1.toNatClampNeg (ma_70 (σ 81 a1.toNatClampNeg) (ma_50 a2 a3))) fun m1 =>
  qa_in (qa_u m1 82 a1.toNatClampNeg (ma_71 (m1 82 a1.toNatClampNeg) ((ma_50 a2 a3) + a3))) fun m2 =>
  m2
theorem mb_69_80 {f : Nat} {M : q4_M} {r : Option Value × q4_M} {σ : qa_S} {a1 : Int32} {a2 : Int32} {a3 : Int32} (hM : qa_O M) (es : qa_s M = σ) (h : q4_run f 69 0 (lv_args 0 [.ref 80, .int (a1), .int (a2), .int (a3)]) [] M 0 0 = some r) : r.1 = none ∧ qa_O r.2 ∧ qa_s r.2 = (ma_69_80 a1 a2 a3 σ) := by
  obtain ⟨lv, el⟩ : ∃ l, l = lv_args 0 [.ref 80, .int (a1), .int (a2), .int (a3)] := ⟨_, rfl⟩
  have g0 : q4_get lv 0 = some (.ref 80) := by rw [el]; rfl
  have g1 : q4_get lv 1 = some (.int (a1)) := by rw [el]; rfl
  have g2 : q4_get lv 2 = some (.int (a2)) := by rw [el]; rfl
  have g3 : q4_get lv 3 = some (.int (a3)) := by rw [el]; rfl
  rw [← el] at h
  clear el
  replace h := qa_iload (n := 2) (q := 1) (qa_e rfl h) rfl g2
  replace h := qa_iload (n := 3) (q := 2) (qa_e rfl h) rfl g3
  obtain ⟨M, h, hM, es⟩ := qa_c1 (y := 50) (as := [.int (a2), .int (a3)]) (rest := []) (i := .invokestatic 50) (q := 5) (qa_e rfl h) (Or.inr rfl) rfl rfl (by decide) rfl (fun r hc => mb_50 hM es hc)
  obtain ⟨lv, h, g, T⟩ := qa_istore (n := 4) (q := 7) (qa_e rfl h) rfl
  replace g0 := T _ _ g0 (by decide) (Or.inr rfl)
  replace g1 := T _ _ g1 (by decide) (Or.inr rfl)
  replace g3 := T _ _ g3 (by decide) (Or.inr rfl)
  have g4 := g
  clear g T
  replace h := qa_aload (n := 0) (q := 8) (qa_e rfl h) rfl g0
  replace h := qa_gr (b := 81) (j := 0) (q := 11) (qa_e rfl h) rfl hM rfl (by decide)
  replace h := qa_iload (n := 1) (q := 12) (qa_e rfl h) rfl g1
  replace h := qa_aload (n := 0) (q := 13) (qa_e rfl h) rfl g0
  replace h := qa_gr (b := 81) (j := 0) (q := 16) (qa_e rfl h) rfl hM rfl (by decide)
  replace h := qa_iload (n := 1) (q := 17) (qa_e rfl h) rfl g1
  replace h := qa_iaload (jn := a1.toNatClampNeg) (q := 18) (qa_e rfl h) rfl hM es rfl
  replace h := qa_iload (n := 4) (q := 20) (qa_e rfl h) rfl g4
  obtain ⟨M, h, hM, es⟩ := qa_c1 (y := 70) (as := [.int ((σ 81 a1.toNatClampNeg)), .int ((ma_50 a2 a3))]) (rest := [.int (a1), .ref 81]) (i := .invokestatic 70) (q := 23) (qa_e rfl h) (Or.inr rfl) rfl rfl (by decide) rfl (fun r hc => mb_70 hM es hc)
  obtain ⟨m1, em1⟩ : ∃ x, x = qa_u σ 81 a1.toNatClampNeg (ma_70 (σ 81 a1.toNatClampNeg) (ma_50 a2 a3)) := ⟨_, rfl⟩
  obtain ⟨M, h, hM, es⟩ := qa_iastore (jn := a1.toNatClampNeg) (q := 24) (qa_e rfl h) rfl hM es rfl
  rw [← em1] at es
  replace h := qa_aload (n := 0) (q := 25) (qa_e rfl h) rfl g0
  replace h := qa_gr (b := 82) (j := 1) (q := 28) (qa_e rfl h) rfl hM rfl (by decide)
  replace h := qa_iload (n := 1) (q := 29) (qa_e rfl h) rfl g1
  replace h := qa_aload (n := 0) (q := 30) (qa_e rfl h) rfl g0
  replace h := qa_gr (b := 82) (j := 1) (q := 33) (qa_e rfl h) rfl hM rfl (by decide)
  replace h := qa_iload (n := 1) (q := 34) (qa_e rfl h) rfl g1
  replace h := qa_iaload (jn := a1.toNatClampNeg) (q := 35) (qa_e rfl h) rfl hM es rfl
  replace h := qa_iload (n := 4) (q := 37) (qa_e rfl h) rfl g4
  replace h := qa_iload (n := 3) (q := 38) (qa_e rfl h) rfl g3
  replace h := qa_iadd (q := 39) (qa_e rfl h) rfl
  obtain ⟨M, h, hM, es⟩ := qa_c1 (y := 71) (as := [.int ((m1 82 a1.toNatClampNeg)), .int (((ma_50 a2 a3) + a3))]) (rest := [.int (a1), .ref 82]) (i := .invokestatic 71) (q := 42) (qa_e rfl h) (Or.inr rfl) rfl rfl (by decide) rfl (fun r hc => mb_71 hM es hc)
  obtain ⟨m2, em2⟩ : ∃ x, x = qa_u m1 82 a1.toNatClampNeg (ma_71 (m1 82 a1.toNatClampNeg) ((ma_50 a2 a3) + a3)) := ⟨_, rfl⟩
  obtain ⟨M, h, hM, es⟩ := qa_iastore (jn := a1.toNatClampNeg) (q := 43) (qa_e rfl h) rfl hM es rfl
  rw [← em2] at es
  have er := qa_rv (qa_e rfl h)
  subst er
  have e0 : ma_69_80 a1 a2 a3 σ = m2 := by exact Eq.trans (qa_ie em1) (Eq.trans (qa_ie em2) (rfl))
  rw [e0]
  exact ⟨rfl, hM, es⟩
noncomputable def mc_66_3_p23 (N : Nat) (l1 : Int32) (l2 : Nat) (l3 : Int32) (s : Int32 × qa_S) : (Int32 × qa_S) ⊕ (Int32 × qa_S) :=
  if s.1 < (4 : Int32) then
    qa_in ((ma_69_80 s.1 (s.2 l2 s.1.toNatClampNeg) (s.2 25 l3.toNatClampNeg) s.2)) fun m4 =>
    qa_in ((if (ma_48 (s.2 24 l3.toNatClampNeg) s.1) = (0 : Int32) then s.2 else m4)) fun m5 =>
    qa_in ((if (ma_48 l1 l3) = (0 : Int32) then s.2 else m5)) fun m6 =>
    .inl ((s.1 + (1 : Int32)), m6)
  else
    .inr (s.1, s.2)
theorem md_66_3_p23 {N F : Nat} {r : Option Value × q4_M} {l1 : Int32} {l2 : Nat} {l3 : Int32} (hN : F ≤ N) : ∀ f n, f ≤ n → f ≤ F → ∀ (s : Int32 × qa_S) (lv : List (Nat × Value)) (M : q4_M), qa_O M → qa_s M = s.2 → q4_get lv 0 = some (.ref 3) → q4_get lv 1 = some (.int (l1)) → q4_get lv 2 = some (.ref (l2)) → q4_get lv 3 = some (.int (l3)) → q4_get lv 4 = some (.int (s.1)) → q4_run f 66 23 lv [] M 0 0 = some r → ∃ lv M, q4_run F 66 82 lv [] M 0 0 = some r ∧ qa_O M ∧ qa_s M = (qa_wh (fun s => s) (mc_66_3_p23 N l1 l2 l3) n s).2 ∧ q4_get lv 0 = some (.ref 3) ∧ q4_get lv 1 = some (.int (l1)) ∧ q4_get lv 2 = some (.ref (l2)) ∧ q4_get lv 3 = some (.int (l3)) := by
  intro f
  induction f with
  | zero => intro n _ _ s lv M hM es _ _ _ _ _ h; cases h
  | succ f ih =>
    intro n hn hF s lv M hM es g0 g1 g2 g3 g4 h
    obtain ⟨n, rfl⟩ : ∃ n1, n = n1 + 1 := ⟨n - 1, by omega⟩
    replace hn : f ≤ n := Nat.le_of_succ_le_succ hn
    have hN := Nat.le_trans (Nat.le_of_succ_le hF) hN
    replace h := qa_iload (n := 4) (q := 25) (qa_d rfl h) rfl g4
    replace h := qa_push (z := (4 : Int32)) (q := 26) (qa_e rfl h) rfl (by decide)
    by_cases c1 : s.1 < (4 : Int32)
    · replace h := qa_iff (q := 29) (qa_e rfl h) rfl (qa_F_ge c1)
      replace h := qa_iload (n := 1) (q := 30) (qa_e rfl h) rfl g1
      replace h := qa_iload (n := 3) (q := 31) (qa_e rfl h) rfl g3
      obtain ⟨M, h, hM, es⟩ := qa_c1 (y := 48) (as := [.int (l1), .int (l3)]) (rest := []) (i := .invokestatic 48) (q := 34) (qa_e rfl h) (Or.inr rfl) rfl rfl (by decide) rfl (fun r hc => mb_48 hM es hc)
      obtain ⟨m4, em4⟩ : ∃ x, x = (ma_69_80 s.1 (s.2 l2 s.1.toNatClampNeg) (s.2 25 l3.toNatClampNeg) s.2) := ⟨_, rfl⟩
      obtain ⟨m5, em5⟩ : ∃ x, x = (if (ma_48 (s.2 24 l3.toNatClampNeg) s.1) = (0 : Int32) then s.2 else m4) := ⟨_, rfl⟩
      obtain ⟨m6, em6⟩ : ∃ x, x = (if (ma_48 l1 l3) = (0 : Int32) then s.2 else m5) := ⟨_, rfl⟩
      obtain ⟨lv, M, h, hM, es, g0, g1, g2, g3, g4⟩ : ∃ lv M, q4_run f 66 76 lv [] M 0 0 = some r ∧ qa_O M ∧ qa_s M = m6 ∧ q4_get lv 0 = some (.ref 3) ∧ q4_get lv 1 = some (.int (l1)) ∧ q4_get lv 2 = some (.ref (l2)) ∧ q4_get lv 3 = some (.int (l3)) ∧ q4_get lv 4 = some (.int (s.1)) := by
        by_cases c2 : (ma_48 l1 l3) = (0 : Int32)
        · replace h := qa_ict (q := 76) (qa_e rfl h) rfl (qa_T_eq c2)
          exact ⟨lv, M, h, hM, ((qa_ms1 c2 es).trans em6.symm), g0, g1, g2, g3, g4⟩
        · replace h := qa_icf (q := 37) (qa_e rfl h) rfl (qa_F_eq c2)
          replace h := qa_aload (n := 0) (q := 38) (qa_e rfl h) rfl g0
          replace h := qa_gr (b := 4) (j := 0) (q := 41) (qa_e rfl h) rfl hM rfl (by decide)
          replace h := qa_gr (b := 24) (j := 7) (q := 44) (qa_e rfl h) rfl hM rfl (by decide)
          replace h := qa_iload (n := 3) (q := 45) (qa_e rfl h) rfl g3
          replace h := qa_iaload (jn := l3.toNatClampNeg) (q := 46) (qa_e rfl h) rfl hM es rfl
          replace h := qa_iload (n := 4) (q := 48) (qa_e rfl h) rfl g4
          obtain ⟨M, h, hM, es⟩ := qa_c1 (y := 48) (as := [.int ((s.2 24 l3.toNatClampNeg)), .int (s.1)]) (rest := []) (i := .invokestatic 48) (q := 51) (qa_e rfl h) (Or.inr rfl) rfl rfl (by decide) rfl (fun r hc => mb_48 hM es hc)
          obtain ⟨lv, M, h, hM, es, g0, g1, g2, g3, g4⟩ : ∃ lv M, q4_run f 66 76 lv [] M 0 0 = some r ∧ qa_O M ∧ qa_s M = m5 ∧ q4_get lv 0 = some (.ref 3) ∧ q4_get lv 1 = some (.int (l1)) ∧ q4_get lv 2 = some (.ref (l2)) ∧ q4_get lv 3 = some (.int (l3)) ∧ q4_get lv 4 = some (.int (s.1)) := by
            by_cases c3 : (ma_48 (s.2 24 l3.toNatClampNeg) s.1) = (0 : Int32)
            · replace h := qa_ict (q := 76) (qa_e rfl h) rfl (qa_T_eq c3)
              exact ⟨lv, M, h, hM, ((qa_ms1 c3 es).trans em5.symm), g0, g1, g2, g3, g4⟩
            · replace h := qa_icf (q := 54) (qa_e rfl h) rfl (qa_F_eq c3)
              replace h := qa_aload (n := 0) (q := 55) (qa_e rfl h) rfl g0
              replace h := qa_gr (b := 80) (j := 4) (q := 58) (qa_e rfl h) rfl hM rfl (by decide)
              replace h := qa_iload (n := 4) (q := 60) (qa_e rfl h) rfl g4
              replace h := qa_aload (n := 2) (q := 61) (qa_e rfl h) rfl g2
              replace h := qa_iload (n := 4) (q := 63) (qa_e rfl h) rfl g4
              replace h := qa_iaload (jn := s.1.toNatClampNeg) (q := 64) (qa_e rfl h) rfl hM es rfl
              replace h := qa_aload (n := 0) (q := 65) (qa_e rfl h) rfl g0
              replace h := qa_gr (b := 4) (j := 0) (q := 68) (qa_e rfl h) rfl hM rfl (by decide)
              replace h := qa_gr (b := 25) (j := 8) (q := 71) (qa_e rfl h) rfl hM rfl (by decide)
              replace h := qa_iload (n := 3) (q := 72) (qa_e rfl h) rfl g3
              replace h := qa_iaload (jn := l3.toNatClampNeg) (q := 73) (qa_e rfl h) rfl hM es rfl
              obtain ⟨M, h, hM, es⟩ := qa_c0 (y := 69) (as := [.ref 80, .int (s.1), .int ((s.2 l2 s.1.toNatClampNeg)), .int ((s.2 25 l3.toNatClampNeg))]) (rest := []) (i := .invokevirtual 69) (q := 76) (qa_e rfl h) (Or.inl rfl) rfl rfl (by decide) rfl (fun r hc => mb_69_80 hM es hc)
              rw [← em4] at es
              exact ⟨lv, M, h, hM, ((qa_ms0 c3 es).trans em5.symm), g0, g1, g2, g3, g4⟩
          exact ⟨lv, M, h, hM, ((qa_ms0 c2 es).trans em6.symm), g0, g1, g2, g3, g4⟩
      obtain ⟨lv, h, g, T⟩ := qa_iinc (n := 4) (z := (1 : Int32)) (q := 79) (qa_e rfl h) rfl (by decide) g4
      replace g0 := T _ _ g0 (by decide) (Or.inr rfl)
      replace g1 := T _ _ g1 (by decide) (Or.inr rfl)
      replace g2 := T _ _ g2 (by decide) (Or.inr rfl)
      replace g3 := T _ _ g3 (by decide) (Or.inr rfl)
      replace g4 := g
      clear g T
      replace h := qa_goto (q := 23) (qa_e rfl h) rfl
      have e0 : mc_66_3_p23 N l1 l2 l3 s = .inl ((s.1 + (1 : Int32)), m6) := by exact Eq.trans (if_pos c1) (Eq.trans (qa_ie em4) (Eq.trans (qa_ie em5) (Eq.trans (qa_ie em6) (rfl))))
      rw [qa_whl e0]
      exact ih n hn (Nat.le_of_succ_le hF) ((s.1 + (1 : Int32)), m6) _ _ hM es g0 g1 g2 g3 g4 h
    · replace h := qa_ift (q := 82) (qa_e rfl h) rfl (qa_T_ge c1)
      have e0 : mc_66_3_p23 N l1 l2 l3 s = .inr (s.1, s.2) := by exact Eq.trans (if_neg c1) (rfl)
      rw [qa_whr e0]
      exact ⟨_, _, q61_mono f F _ _ _ _ _ _ _ _ (Nat.le_of_succ_le hF) h, hM, es, g0, g1, g2, g3⟩
noncomputable def mc_66_3_p9 (N : Nat) (l1 : Int32) (l2 : Nat) (s : Int32 × qa_S) : (Int32 × qa_S) ⊕ (Int32 × qa_S) :=
  if s.1 < (s.2 4 1) then
    qa_in ((qa_wh (fun s => s) (mc_66_3_p23 N l1 l2 s.1) N ((0 : Int32), s.2))) fun r2 =>
    .inl ((s.1 + (1 : Int32)), r2.2)
  else
    .inr (s.1, s.2)
theorem md_66_3_p9 {N F : Nat} {r : Option Value × q4_M} {l1 : Int32} {l2 : Nat} (hN : F ≤ N) : ∀ f n, f ≤ n → f ≤ F → ∀ (s : Int32 × qa_S) (lv : List (Nat × Value)) (M : q4_M), qa_O M → qa_s M = s.2 → q4_get lv 0 = some (.ref 3) → q4_get lv 1 = some (.int (l1)) → q4_get lv 2 = some (.ref (l2)) → q4_get lv 3 = some (.int (s.1)) → q4_run f 66 9 lv [] M 0 0 = some r → ∃ lv M, q4_run F 66 88 lv [] M 0 0 = some r ∧ qa_O M ∧ qa_s M = (qa_wh (fun s => s) (mc_66_3_p9 N l1 l2) n s).2 := by
  intro f
  induction f with
  | zero => intro n _ _ s lv M hM es _ _ _ _ h; cases h
  | succ f ih =>
    intro n hn hF s lv M hM es g0 g1 g2 g3 h
    obtain ⟨n, rfl⟩ : ∃ n1, n = n1 + 1 := ⟨n - 1, by omega⟩
    replace hn : f ≤ n := Nat.le_of_succ_le_succ hn
    have hN := Nat.le_trans (Nat.le_of_succ_le hF) hN
    replace h := qa_iload (n := 3) (q := 10) (qa_d rfl h) rfl g3
    replace h := qa_aload (n := 0) (q := 11) (qa_e rfl h) rfl g0
    replace h := qa_gr (b := 4) (j := 0) (q := 14) (qa_e rfl h) rfl hM rfl (by decide)
    replace h := qa_gi (j := 1) (q := 17) (qa_e rfl h) rfl hM es rfl (by decide)
    by_cases c1 : s.1 < (s.2 4 1)
    · replace h := qa_iff (q := 20) (qa_e rfl h) rfl (qa_F_ge c1)
      replace h := qa_push (z := (0 : Int32)) (q := 21) (qa_e rfl h) rfl (by decide)
      obtain ⟨lv, h, g, T⟩ := qa_istore (n := 4) (q := 23) (qa_e rfl h) rfl
      replace g0 := T _ _ g0 (by decide) (Or.inr rfl)
      replace g1 := T _ _ g1 (by decide) (Or.inr rfl)
      replace g2 := T _ _ g2 (by decide) (Or.inr rfl)
      replace g3 := T _ _ g3 (by decide) (Or.inr rfl)
      have g4 := g
      clear g T
      obtain ⟨r2, er2⟩ : ∃ x, x = (qa_wh (fun s => s) (mc_66_3_p23 N l1 l2 s.1) N ((0 : Int32), s.2)) := ⟨_, rfl⟩
      have L := md_66_3_p23 (l1 := l1) (l2 := l2) (l3 := s.1) (F := f) (N := N) (r := r) hN f N hN (Nat.le_refl f) ((0 : Int32), s.2) _ _ hM es g0 g1 g2 g3 g4 h
      rw [← er2] at L
      obtain ⟨lv, M, h, hM, es, g0, g1, g2, g3⟩ := L
      obtain ⟨lv, h, g, T⟩ := qa_iinc (n := 3) (z := (1 : Int32)) (q := 85) (qa_e rfl h) rfl (by decide) g3
      replace g0 := T _ _ g0 (by decide) (Or.inr rfl)
      replace g1 := T _ _ g1 (by decide) (Or.inr rfl)
      replace g2 := T _ _ g2 (by decide) (Or.inr rfl)
      replace g3 := g
      clear g T
      replace h := qa_goto (q := 9) (qa_e rfl h) rfl
      have e0 : mc_66_3_p9 N l1 l2 s = .inl ((s.1 + (1 : Int32)), r2.2) := by exact Eq.trans (if_pos c1) (Eq.trans (qa_ie er2) (rfl))
      rw [qa_whl e0]
      exact ih n hn (Nat.le_of_succ_le hF) ((s.1 + (1 : Int32)), r2.2) _ _ hM es g0 g1 g2 g3 h
    · replace h := qa_ift (q := 88) (qa_e rfl h) rfl (qa_T_ge c1)
      have e0 : mc_66_3_p9 N l1 l2 s = .inr (s.1, s.2) := by exact Eq.trans (if_neg c1) (rfl)
      rw [qa_whr e0]
      exact ⟨_, _, q61_mono f F _ _ _ _ _ _ _ _ (Nat.le_of_succ_le hF) h, hM, es⟩
/-- BuriedBySevens, aim, (I[I)V -/
noncomputable def ma_66_3 (N : Nat) (a1 : Int32) (a2 : Nat) (σ : qa_S) : qa_S :=
  qa_in ((ma_67_80 N σ)) fun m1 =>
  qa_in ((qa_wh (fun s => s) (mc_66_3_p9 N a1 a2) N ((0 : Int32), m1))) fun r2 =>
  r2.2
theorem mb_66_3 {f N : Nat} (hN : f ≤ N) {M : q4_M} {r : Option Value × q4_M} {σ : qa_S} {a1 : Int32} {a2 : Nat} (hM : qa_O M) (es : qa_s M = σ) (h : q4_run f 66 0 (lv_args 0 [.ref 3, .int (a1), .ref (a2)]) [] M 0 0 = some r) : r.1 = none ∧ qa_O r.2 ∧ qa_s r.2 = (ma_66_3 N a1 a2 σ) := by
  obtain ⟨lv, el⟩ : ∃ l, l = lv_args 0 [.ref 3, .int (a1), .ref (a2)] := ⟨_, rfl⟩
  have g0 : q4_get lv 0 = some (.ref 3) := by rw [el]; rfl
  have g1 : q4_get lv 1 = some (.int (a1)) := by rw [el]; rfl
  have g2 : q4_get lv 2 = some (.ref (a2)) := by rw [el]; rfl
  rw [← el] at h
  clear el
  replace h := qa_aload (n := 0) (q := 1) (qa_e rfl h) rfl g0
  replace h := qa_gr (b := 80) (j := 4) (q := 4) (qa_e rfl h) rfl hM rfl (by decide)
  obtain ⟨m1, em1⟩ : ∃ x, x = (ma_67_80 N σ) := ⟨_, rfl⟩
  obtain ⟨M, h, hM, es⟩ := qa_c0 (y := 67) (as := [.ref 80]) (rest := []) (i := .invokevirtual 67) (q := 7) (qa_e rfl h) (Or.inl rfl) rfl rfl (by decide) rfl (fun r hc => mb_67_80 hN hM es hc)
  rw [← em1] at es
  replace h := qa_push (z := (0 : Int32)) (q := 8) (qa_e rfl h) rfl (by decide)
  obtain ⟨lv, h, g, T⟩ := qa_istore (n := 3) (q := 9) (qa_e rfl h) rfl
  replace g0 := T _ _ g0 (by decide) (Or.inr rfl)
  replace g1 := T _ _ g1 (by decide) (Or.inr rfl)
  replace g2 := T _ _ g2 (by decide) (Or.inr rfl)
  have g3 := g
  clear g T
  obtain ⟨r2, er2⟩ : ∃ x, x = (qa_wh (fun s => s) (mc_66_3_p9 N a1 a2) N ((0 : Int32), m1)) := ⟨_, rfl⟩
  have L := md_66_3_p9 (l1 := a1) (l2 := a2) (F := f) (N := N) (r := r) hN f N hN (Nat.le_refl f) ((0 : Int32), m1) _ _ hM es g0 g1 g2 g3 h
  rw [← er2] at L
  obtain ⟨lv, M, h, hM, es⟩ := L
  have er := qa_rv (qa_e rfl h)
  subst er
  have e0 : ma_66_3 N a1 a2 σ = r2.2 := by exact Eq.trans (qa_ie em1) (Eq.trans (qa_ie er2) (rfl))
  rw [e0]
  exact ⟨rfl, hM, es⟩
/-- BuriedBySevens, aimAtGlass, (I)V -/
noncomputable def ma_65_3 (N : Nat) (a1 : Int32) (σ : qa_S) : qa_S :=
  qa_in ((ma_46_3 N σ)) fun m1 =>
  qa_in ((ma_66_3 N a1 94 m1)) fun m2 =>
  m2
theorem mb_65_3 {f N : Nat} (hN : f ≤ N) {M : q4_M} {r : Option Value × q4_M} {σ : qa_S} {a1 : Int32} (hM : qa_O M) (es : qa_s M = σ) (h : q4_run f 65 0 (lv_args 0 [.ref 3, .int (a1)]) [] M 0 0 = some r) : r.1 = none ∧ qa_O r.2 ∧ qa_s r.2 = (ma_65_3 N a1 σ) := by
  obtain ⟨lv, el⟩ : ∃ l, l = lv_args 0 [.ref 3, .int (a1)] := ⟨_, rfl⟩
  have g0 : q4_get lv 0 = some (.ref 3) := by rw [el]; rfl
  have g1 : q4_get lv 1 = some (.int (a1)) := by rw [el]; rfl
  rw [← el] at h
  clear el
  replace h := qa_aload (n := 0) (q := 1) (qa_e rfl h) rfl g0
  obtain ⟨m1, em1⟩ : ∃ x, x = (ma_46_3 N σ) := ⟨_, rfl⟩
  obtain ⟨M, h, hM, es⟩ := qa_c0 (y := 46) (as := [.ref 3]) (rest := []) (i := .invokevirtual 46) (q := 4) (qa_e rfl h) (Or.inl rfl) rfl rfl (by decide) rfl (fun r hc => mb_46_3 hN hM es hc)
  rw [← em1] at es
  replace h := qa_aload (n := 0) (q := 5) (qa_e rfl h) rfl g0
  replace h := qa_iload (n := 1) (q := 6) (qa_e rfl h) rfl g1
  replace h := qa_aload (n := 0) (q := 7) (qa_e rfl h) rfl g0
  replace h := qa_gr (b := 94) (j := 11) (q := 10) (qa_e rfl h) rfl hM rfl (by decide)
  obtain ⟨m2, em2⟩ : ∃ x, x = (ma_66_3 N a1 94 m1) := ⟨_, rfl⟩
  obtain ⟨M, h, hM, es⟩ := qa_c0 (y := 66) (as := [.ref 3, .int (a1), .ref 94]) (rest := []) (i := .invokevirtual 66) (q := 13) (qa_e rfl h) (Or.inl rfl) rfl rfl (by decide) rfl (fun r hc => mb_66_3 hN hM es hc)
  rw [← em2] at es
  have er := qa_rv (qa_e rfl h)
  subst er
  have e0 : ma_65_3 N a1 σ = m2 := by exact Eq.trans (qa_ie em1) (Eq.trans (qa_ie em2) (rfl))
  rw [e0]
  exact ⟨rfl, hM, es⟩
noncomputable def mc_73_73_4_p76 (N : Nat) (l2 : Int32) (l3 : Int32) (l4 : Int32) (s : Int32 × qa_S) : (Int32 × qa_S) ⊕ (Int32 × qa_S) :=
  if s.1 < (4 : Int32) then
    qa_in (qa_u s.2 (75 + s.1.toNatClampNeg) l4.toNatClampNeg ((s.2 (75 + s.1.toNatClampNeg) (l4 - l3).toNatClampNeg) + (s.2 (17 + l2.toNatClampNeg) s.1.toNatClampNeg))) fun m2 =>
    .inl ((s.1 + (1 : Int32)), m2)
  else
    .inr (s.1, s.2)
theorem md_73_73_4_p76 {N F : Nat} {r : Option Value × q4_M} {l2 : Int32} {l3 : Int32} {l4 : Int32} (hN : F ≤ N) : ∀ f n, f ≤ n → f ≤ F → ∀ (s : Int32 × qa_S) (lv : List (Nat × Value)) (M : q4_M), qa_O M → qa_s M = s.2 → q4_get lv 0 = some (.ref 73) → q4_get lv 1 = some (.ref 4) → q4_get lv 2 = some (.int (l2)) → q4_get lv 3 = some (.int (l3)) → q4_get lv 4 = some (.int (l4)) → q4_get lv 5 = some (.int (s.1)) → q4_run f 73 76 lv [] M 0 0 = some r → ∃ lv M, q4_run F 73 120 lv [] M 0 0 = some r ∧ qa_O M ∧ qa_s M = (qa_wh (fun s => s) (mc_73_73_4_p76 N l2 l3 l4) n s).2 ∧ q4_get lv 0 = some (.ref 73) ∧ q4_get lv 1 = some (.ref 4) ∧ q4_get lv 2 = some (.int (l2)) ∧ q4_get lv 3 = some (.int (l3)) ∧ q4_get lv 4 = some (.int (l4)) := by
  intro f
  induction f with
  | zero => intro n _ _ s lv M hM es _ _ _ _ _ _ h; cases h
  | succ f ih =>
    intro n hn hF s lv M hM es g0 g1 g2 g3 g4 g5 h
    obtain ⟨n, rfl⟩ : ∃ n1, n = n1 + 1 := ⟨n - 1, by omega⟩
    replace hn : f ≤ n := Nat.le_of_succ_le_succ hn
    have hN := Nat.le_trans (Nat.le_of_succ_le hF) hN
    replace h := qa_iload (n := 5) (q := 78) (qa_d rfl h) rfl g5
    replace h := qa_push (z := (4 : Int32)) (q := 79) (qa_e rfl h) rfl (by decide)
    by_cases c1 : s.1 < (4 : Int32)
    · replace h := qa_iff (q := 82) (qa_e rfl h) rfl (qa_F_ge c1)
      replace h := qa_aload (n := 0) (q := 83) (qa_e rfl h) rfl g0
      replace h := qa_gr (b := 74) (j := 2) (q := 86) (qa_e rfl h) rfl hM rfl (by decide)
      replace h := qa_iload (n := 5) (q := 88) (qa_e rfl h) rfl g5
      replace h := qa_aaload (b := 75) (jn := s.1.toNatClampNeg) (q := 89) (qa_e rfl h) rfl hM rfl (by decide) (by decide +kernel)
      replace h := qa_iload (n := 4) (q := 91) (qa_e rfl h) rfl g4
      replace h := qa_aload (n := 0) (q := 92) (qa_e rfl h) rfl g0
      replace h := qa_gr (b := 74) (j := 2) (q := 95) (qa_e rfl h) rfl hM rfl (by decide)
      replace h := qa_iload (n := 5) (q := 97) (qa_e rfl h) rfl g5
      replace h := qa_aaload (b := 75) (jn := s.1.toNatClampNeg) (q := 98) (qa_e rfl h) rfl hM rfl (by decide) (by decide +kernel)
      replace h := qa_iload (n := 4) (q := 100) (qa_e rfl h) rfl g4
      replace h := qa_iload (n := 3) (q := 101) (qa_e rfl h) rfl g3
      replace h := qa_isub (q := 102) (qa_e rfl h) rfl
      replace h := qa_iaload (jn := (l4 - l3).toNatClampNeg) (q := 103) (qa_e rfl h) rfl hM es rfl
      replace h := qa_aload (n := 1) (q := 104) (qa_e rfl h) rfl g1
      replace h := qa_gr (b := 16) (j := 6) (q := 107) (qa_e rfl h) rfl hM rfl (by decide)
      replace h := qa_iload (n := 2) (q := 108) (qa_e rfl h) rfl g2
      replace h := qa_aaload (b := 17) (jn := l2.toNatClampNeg) (q := 109) (qa_e rfl h) rfl hM rfl (by decide) (by decide +kernel)
      replace h := qa_iload (n := 5) (q := 111) (qa_e rfl h) rfl g5
      replace h := qa_iaload (jn := s.1.toNatClampNeg) (q := 112) (qa_e rfl h) rfl hM es rfl
      replace h := qa_iadd (q := 113) (qa_e rfl h) rfl
      obtain ⟨m2, em2⟩ : ∃ x, x = qa_u s.2 (75 + s.1.toNatClampNeg) l4.toNatClampNeg ((s.2 (75 + s.1.toNatClampNeg) (l4 - l3).toNatClampNeg) + (s.2 (17 + l2.toNatClampNeg) s.1.toNatClampNeg)) := ⟨_, rfl⟩
      obtain ⟨M, h, hM, es⟩ := qa_iastore (jn := l4.toNatClampNeg) (q := 114) (qa_e rfl h) rfl hM es rfl
      rw [← em2] at es
      obtain ⟨lv, h, g, T⟩ := qa_iinc (n := 5) (z := (1 : Int32)) (q := 117) (qa_e rfl h) rfl (by decide) g5
      replace g0 := T _ _ g0 (by decide) (Or.inr rfl)
      replace g1 := T _ _ g1 (by decide) (Or.inr rfl)
      replace g2 := T _ _ g2 (by decide) (Or.inr rfl)
      replace g3 := T _ _ g3 (by decide) (Or.inr rfl)
      replace g4 := T _ _ g4 (by decide) (Or.inr rfl)
      replace g5 := g
      clear g T
      replace h := qa_goto (q := 76) (qa_e rfl h) rfl
      have e0 : mc_73_73_4_p76 N l2 l3 l4 s = .inl ((s.1 + (1 : Int32)), m2) := by exact Eq.trans (if_pos c1) (Eq.trans (qa_ie em2) (rfl))
      rw [qa_whl e0]
      exact ih n hn (Nat.le_of_succ_le hF) ((s.1 + (1 : Int32)), m2) _ _ hM es g0 g1 g2 g3 g4 g5 h
    · replace h := qa_ift (q := 120) (qa_e rfl h) rfl (qa_T_ge c1)
      have e0 : mc_73_73_4_p76 N l2 l3 l4 s = .inr (s.1, s.2) := by exact Eq.trans (if_neg c1) (rfl)
      rw [qa_whr e0]
      exact ⟨_, _, q61_mono f F _ _ _ _ _ _ _ _ (Nat.le_of_succ_le hF) h, hM, es, g0, g1, g2, g3, g4⟩
noncomputable def mc_73_73_4_p47 (N : Nat) (l2 : Int32) (l3 : Int32) (s : Int32 × qa_S) : (Int32 × qa_S) ⊕ (Int32 × qa_S) :=
  if s.1 < ((3 : Int32) * l3) then
    qa_in (qa_u s.2 79 s.1.toNatClampNeg ((s.2 79 (s.1 - l3).toNatClampNeg) + (1 : Int32))) fun m2 =>
    qa_in ((qa_wh (fun s => s) (mc_73_73_4_p76 N l2 l3 s.1) N ((0 : Int32), m2))) fun r3 =>
    .inl ((s.1 + (1 : Int32)), r3.2)
  else
    .inr (s.1, s.2)
theorem md_73_73_4_p47 {N F : Nat} {r : Option Value × q4_M} {l2 : Int32} {l3 : Int32} (hN : F ≤ N) : ∀ f n, f ≤ n → f ≤ F → ∀ (s : Int32 × qa_S) (lv : List (Nat × Value)) (M : q4_M), qa_O M → qa_s M = s.2 → q4_get lv 0 = some (.ref 73) → q4_get lv 1 = some (.ref 4) → q4_get lv 2 = some (.int (l2)) → q4_get lv 3 = some (.int (l3)) → q4_get lv 4 = some (.int (s.1)) → q4_run f 73 47 lv [] M 0 0 = some r → ∃ lv M, q4_run F 73 126 lv [] M 0 0 = some r ∧ qa_O M ∧ qa_s M = (qa_wh (fun s => s) (mc_73_73_4_p47 N l2 l3) n s).2 ∧ q4_get lv 0 = some (.ref 73) ∧ q4_get lv 1 = some (.ref 4) ∧ q4_get lv 2 = some (.int (l2)) := by
  intro f
  induction f with
  | zero => intro n _ _ s lv M hM es _ _ _ _ _ h; cases h
  | succ f ih =>
    intro n hn hF s lv M hM es g0 g1 g2 g3 g4 h
    obtain ⟨n, rfl⟩ : ∃ n1, n = n1 + 1 := ⟨n - 1, by omega⟩
    replace hn : f ≤ n := Nat.le_of_succ_le_succ hn
    have hN := Nat.le_trans (Nat.le_of_succ_le hF) hN
    replace h := qa_iload (n := 4) (q := 49) (qa_d rfl h) rfl g4
    replace h := qa_push (z := (3 : Int32)) (q := 50) (qa_e rfl h) rfl (by decide)
    replace h := qa_iload (n := 3) (q := 51) (qa_e rfl h) rfl g3
    replace h := qa_imul (q := 52) (qa_e rfl h) rfl
    by_cases c1 : s.1 < ((3 : Int32) * l3)
    · replace h := qa_iff (q := 55) (qa_e rfl h) rfl (qa_F_ge c1)
      replace h := qa_aload (n := 0) (q := 56) (qa_e rfl h) rfl g0
      replace h := qa_gr (b := 79) (j := 3) (q := 59) (qa_e rfl h) rfl hM rfl (by decide)
      replace h := qa_iload (n := 4) (q := 61) (qa_e rfl h) rfl g4
      replace h := qa_aload (n := 0) (q := 62) (qa_e rfl h) rfl g0
      replace h := qa_gr (b := 79) (j := 3) (q := 65) (qa_e rfl h) rfl hM rfl (by decide)
      replace h := qa_iload (n := 4) (q := 67) (qa_e rfl h) rfl g4
      replace h := qa_iload (n := 3) (q := 68) (qa_e rfl h) rfl g3
      replace h := qa_isub (q := 69) (qa_e rfl h) rfl
      replace h := qa_iaload (jn := (s.1 - l3).toNatClampNeg) (q := 70) (qa_e rfl h) rfl hM es rfl
      replace h := qa_push (z := (1 : Int32)) (q := 71) (qa_e rfl h) rfl (by decide)
      replace h := qa_iadd (q := 72) (qa_e rfl h) rfl
      obtain ⟨m2, em2⟩ : ∃ x, x = qa_u s.2 79 s.1.toNatClampNeg ((s.2 79 (s.1 - l3).toNatClampNeg) + (1 : Int32)) := ⟨_, rfl⟩
      obtain ⟨M, h, hM, es⟩ := qa_iastore (jn := s.1.toNatClampNeg) (q := 73) (qa_e rfl h) rfl hM es rfl
      rw [← em2] at es
      replace h := qa_push (z := (0 : Int32)) (q := 74) (qa_e rfl h) rfl (by decide)
      obtain ⟨lv, h, g, T⟩ := qa_istore (n := 5) (q := 76) (qa_e rfl h) rfl
      replace g0 := T _ _ g0 (by decide) (Or.inr rfl)
      replace g1 := T _ _ g1 (by decide) (Or.inr rfl)
      replace g2 := T _ _ g2 (by decide) (Or.inr rfl)
      replace g3 := T _ _ g3 (by decide) (Or.inr rfl)
      replace g4 := T _ _ g4 (by decide) (Or.inr rfl)
      have g5 := g
      clear g T
      obtain ⟨r3, er3⟩ : ∃ x, x = (qa_wh (fun s => s) (mc_73_73_4_p76 N l2 l3 s.1) N ((0 : Int32), m2)) := ⟨_, rfl⟩
      have L := md_73_73_4_p76 (l2 := l2) (l3 := l3) (l4 := s.1) (F := f) (N := N) (r := r) hN f N hN (Nat.le_refl f) ((0 : Int32), m2) _ _ hM es g0 g1 g2 g3 g4 g5 h
      rw [← er3] at L
      obtain ⟨lv, M, h, hM, es, g0, g1, g2, g3, g4⟩ := L
      obtain ⟨lv, h, g, T⟩ := qa_iinc (n := 4) (z := (1 : Int32)) (q := 123) (qa_e rfl h) rfl (by decide) g4
      replace g0 := T _ _ g0 (by decide) (Or.inr rfl)
      replace g1 := T _ _ g1 (by decide) (Or.inr rfl)
      replace g2 := T _ _ g2 (by decide) (Or.inr rfl)
      replace g3 := T _ _ g3 (by decide) (Or.inr rfl)
      replace g4 := g
      clear g T
      replace h := qa_goto (q := 47) (qa_e rfl h) rfl
      have e0 : mc_73_73_4_p47 N l2 l3 s = .inl ((s.1 + (1 : Int32)), r3.2) := by exact Eq.trans (if_pos c1) (Eq.trans (qa_ie em2) (Eq.trans (qa_ie er3) (rfl)))
      rw [qa_whl e0]
      exact ih n hn (Nat.le_of_succ_le hF) ((s.1 + (1 : Int32)), r3.2) _ _ hM es g0 g1 g2 g3 g4 h
    · replace h := qa_ift (q := 126) (qa_e rfl h) rfl (qa_T_ge c1)
      have e0 : mc_73_73_4_p47 N l2 l3 s = .inr (s.1, s.2) := by exact Eq.trans (if_neg c1) (rfl)
      rw [qa_whr e0]
      exact ⟨_, _, q61_mono f F _ _ _ _ _ _ _ _ (Nat.le_of_succ_le hF) h, hM, es, g0, g1, g2⟩
noncomputable def mc_73_73_4_p27 (N : Nat) (s : Int32 × qa_S) : (Int32 × qa_S) ⊕ (Int32 × qa_S) :=
  if s.1 < (0 : Int32) then
    .inr (s.1, s.2)
  else
    qa_in ((qa_wh (fun s => s) (mc_73_73_4_p47 N s.1 (s.2 1 (((s.2 73 0) - (1 : Int32)) - s.1).toNatClampNeg)) N ((s.2 1 (((s.2 73 0) - (1 : Int32)) - s.1).toNatClampNeg), s.2))) fun r2 =>
    .inl ((s.1 + (-1 : Int32)), r2.2)
theorem md_73_73_4_p27 {N F : Nat} {r : Option Value × q4_M} (hN : F ≤ N) : ∀ f n, f ≤ n → f ≤ F → ∀ (s : Int32 × qa_S) (lv : List (Nat × Value)) (M : q4_M), qa_O M → qa_s M = s.2 → q4_get lv 0 = some (.ref 73) → q4_get lv 1 = some (.ref 4) → q4_get lv 2 = some (.int (s.1)) → q4_run f 73 27 lv [] M 0 0 = some r → ∃ lv M, q4_run F 73 132 lv [] M 0 0 = some r ∧ qa_O M ∧ qa_s M = (qa_wh (fun s => s) (mc_73_73_4_p27 N) n s).2 ∧ q4_get lv 0 = some (.ref 73) := by
  intro f
  induction f with
  | zero => intro n _ _ s lv M hM es _ _ _ h; cases h
  | succ f ih =>
    intro n hn hF s lv M hM es g0 g1 g2 h
    obtain ⟨n, rfl⟩ : ∃ n1, n = n1 + 1 := ⟨n - 1, by omega⟩
    replace hn : f ≤ n := Nat.le_of_succ_le_succ hn
    have hN := Nat.le_trans (Nat.le_of_succ_le hF) hN
    replace h := qa_iload (n := 2) (q := 28) (qa_d rfl h) rfl g2
    by_cases c1 : s.1 < (0 : Int32)
    · replace h := qa_ict (q := 132) (qa_e rfl h) rfl (qa_T_lt c1)
      have e0 : mc_73_73_4_p27 N s = .inr (s.1, s.2) := by exact Eq.trans (if_pos c1) (rfl)
      rw [qa_whr e0]
      exact ⟨_, _, q61_mono f F _ _ _ _ _ _ _ _ (Nat.le_of_succ_le hF) h, hM, es, g0⟩
    · replace h := qa_icf (q := 31) (qa_e rfl h) rfl (qa_F_lt c1)
      replace h := qa_getstatic (q := 34) (qa_e rfl h) rfl
      replace h := qa_aload (n := 0) (q := 35) (qa_e rfl h) rfl g0
      replace h := qa_gi (j := 0) (q := 38) (qa_e rfl h) rfl hM es rfl (by decide)
      replace h := qa_push (z := (1 : Int32)) (q := 39) (qa_e rfl h) rfl (by decide)
      replace h := qa_isub (q := 40) (qa_e rfl h) rfl
      replace h := qa_iload (n := 2) (q := 41) (qa_e rfl h) rfl g2
      replace h := qa_isub (q := 42) (qa_e rfl h) rfl
      replace h := qa_iaload (jn := (((s.2 73 0) - (1 : Int32)) - s.1).toNatClampNeg) (q := 43) (qa_e rfl h) rfl hM es rfl
      obtain ⟨lv, h, g, T⟩ := qa_istore (n := 3) (q := 44) (qa_e rfl h) rfl
      replace g0 := T _ _ g0 (by decide) (Or.inr rfl)
      replace g1 := T _ _ g1 (by decide) (Or.inr rfl)
      replace g2 := T _ _ g2 (by decide) (Or.inr rfl)
      have g3 := g
      clear g T
      replace h := qa_iload (n := 3) (q := 45) (qa_e rfl h) rfl g3
      obtain ⟨lv, h, g, T⟩ := qa_istore (n := 4) (q := 47) (qa_e rfl h) rfl
      replace g0 := T _ _ g0 (by decide) (Or.inr rfl)
      replace g1 := T _ _ g1 (by decide) (Or.inr rfl)
      replace g2 := T _ _ g2 (by decide) (Or.inr rfl)
      replace g3 := T _ _ g3 (by decide) (Or.inr rfl)
      have g4 := g
      clear g T
      obtain ⟨r2, er2⟩ : ∃ x, x = (qa_wh (fun s => s) (mc_73_73_4_p47 N s.1 (s.2 1 (((s.2 73 0) - (1 : Int32)) - s.1).toNatClampNeg)) N ((s.2 1 (((s.2 73 0) - (1 : Int32)) - s.1).toNatClampNeg), s.2)) := ⟨_, rfl⟩
      have L := md_73_73_4_p47 (l2 := s.1) (l3 := (s.2 1 (((s.2 73 0) - (1 : Int32)) - s.1).toNatClampNeg)) (F := f) (N := N) (r := r) hN f N hN (Nat.le_refl f) ((s.2 1 (((s.2 73 0) - (1 : Int32)) - s.1).toNatClampNeg), s.2) _ _ hM es g0 g1 g2 g3 g4 h
      rw [← er2] at L
      obtain ⟨lv, M, h, hM, es, g0, g1, g2⟩ := L
      obtain ⟨lv, h, g, T⟩ := qa_iinc (n := 2) (z := (-1 : Int32)) (q := 129) (qa_e rfl h) rfl (by decide) g2
      replace g0 := T _ _ g0 (by decide) (Or.inr rfl)
      replace g1 := T _ _ g1 (by decide) (Or.inr rfl)
      replace g2 := g
      clear g T
      replace h := qa_goto (q := 27) (qa_e rfl h) rfl
      have e0 : mc_73_73_4_p27 N s = .inl ((s.1 + (-1 : Int32)), r2.2) := by exact Eq.trans (if_neg c1) (Eq.trans (qa_ie er2) (rfl))
      rw [qa_whl e0]
      exact ih n hn (Nat.le_of_succ_le hF) ((s.1 + (-1 : Int32)), r2.2) _ _ hM es g0 g1 g2 h
noncomputable def mc_74_73_p19 (N : Nat) (l1 : Int32) (l2 : Int32) (s : Int32 × qa_S) : (Int32 × qa_S) ⊕ (Int32 × qa_S) :=
  if s.1 < (4 : Int32) then
    if (0 : Int32) < l2 then
      qa_in (qa_u s.2 (75 + s.1.toNatClampNeg) l1.toNatClampNeg ((s.2 (75 + s.1.toNatClampNeg) l1.toNatClampNeg) / l2)) fun m3 =>
      .inl ((s.1 + (1 : Int32)), m3)
    else
      .inr (s.1, s.2)
  else
    .inr (s.1, s.2)
theorem md_74_73_p19 {N F : Nat} {r : Option Value × q4_M} {l1 : Int32} {l2 : Int32} (hN : F ≤ N) : ∀ f n, f ≤ n → f ≤ F → ∀ (s : Int32 × qa_S) (lv : List (Nat × Value)) (M : q4_M), qa_O M → qa_s M = s.2 → q4_get lv 0 = some (.ref 73) → q4_get lv 1 = some (.int (l1)) → q4_get lv 2 = some (.int (l2)) → q4_get lv 3 = some (.int (s.1)) → q4_run f 74 19 lv [] M 0 0 = some r → ∃ lv M, q4_run F 74 46 lv [] M 0 0 = some r ∧ qa_O M ∧ qa_s M = (qa_wh (fun s => s) (mc_74_73_p19 N l1 l2) n s).2 ∧ q4_get lv 0 = some (.ref 73) ∧ q4_get lv 1 = some (.int (l1)) := by
  intro f
  induction f with
  | zero => intro n _ _ s lv M hM es _ _ _ _ h; cases h
  | succ f ih =>
    intro n hn hF s lv M hM es g0 g1 g2 g3 h
    obtain ⟨n, rfl⟩ : ∃ n1, n = n1 + 1 := ⟨n - 1, by omega⟩
    replace hn : f ≤ n := Nat.le_of_succ_le_succ hn
    have hN := Nat.le_trans (Nat.le_of_succ_le hF) hN
    replace h := qa_iload (n := 3) (q := 20) (qa_d rfl h) rfl g3
    replace h := qa_push (z := (4 : Int32)) (q := 21) (qa_e rfl h) rfl (by decide)
    by_cases c1 : s.1 < (4 : Int32)
    · replace h := qa_iff (q := 24) (qa_e rfl h) rfl (qa_F_ge c1)
      replace h := qa_iload (n := 2) (q := 25) (qa_e rfl h) rfl g2
      by_cases c2 : (0 : Int32) < l2
      · replace h := qa_icf (q := 28) (qa_e rfl h) rfl (qa_F_le c2)
        replace h := qa_aload (n := 0) (q := 29) (qa_e rfl h) rfl g0
        replace h := qa_gr (b := 74) (j := 2) (q := 32) (qa_e rfl h) rfl hM rfl (by decide)
        replace h := qa_iload (n := 3) (q := 33) (qa_e rfl h) rfl g3
        replace h := qa_aaload (b := 75) (jn := s.1.toNatClampNeg) (q := 34) (qa_e rfl h) rfl hM rfl (by decide) (by decide +kernel)
        replace h := qa_iload (n := 1) (q := 35) (qa_e rfl h) rfl g1
        replace h := qa_dup2 (q := 36) (qa_e rfl h) rfl
        replace h := qa_iaload (jn := l1.toNatClampNeg) (q := 37) (qa_e rfl h) rfl hM es rfl
        replace h := qa_iload (n := 2) (q := 38) (qa_e rfl h) rfl g2
        replace h := qa_idiv (q := 39) (qa_e rfl h) rfl
        obtain ⟨m3, em3⟩ : ∃ x, x = qa_u s.2 (75 + s.1.toNatClampNeg) l1.toNatClampNeg ((s.2 (75 + s.1.toNatClampNeg) l1.toNatClampNeg) / l2) := ⟨_, rfl⟩
        obtain ⟨M, h, hM, es⟩ := qa_iastore (jn := l1.toNatClampNeg) (q := 40) (qa_e rfl h) rfl hM es rfl
        rw [← em3] at es
        obtain ⟨lv, h, g, T⟩ := qa_iinc (n := 3) (z := (1 : Int32)) (q := 43) (qa_e rfl h) rfl (by decide) g3
        replace g0 := T _ _ g0 (by decide) (Or.inr rfl)
        replace g1 := T _ _ g1 (by decide) (Or.inr rfl)
        replace g2 := T _ _ g2 (by decide) (Or.inr rfl)
        replace g3 := g
        clear g T
        replace h := qa_goto (q := 19) (qa_e rfl h) rfl
        have e0 : mc_74_73_p19 N l1 l2 s = .inl ((s.1 + (1 : Int32)), m3) := by exact Eq.trans (if_pos c1) (Eq.trans (if_pos c2) (Eq.trans (qa_ie em3) (rfl)))
        rw [qa_whl e0]
        exact ih n hn (Nat.le_of_succ_le hF) ((s.1 + (1 : Int32)), m3) _ _ hM es g0 g1 g2 g3 h
      · replace h := qa_ict (q := 46) (qa_e rfl h) rfl (qa_T_le c2)
        have e0 : mc_74_73_p19 N l1 l2 s = .inr (s.1, s.2) := by exact Eq.trans (if_pos c1) (Eq.trans (if_neg c2) (rfl))
        rw [qa_whr e0]
        exact ⟨_, _, q61_mono f F _ _ _ _ _ _ _ _ (Nat.le_of_succ_le hF) h, hM, es, g0, g1⟩
    · replace h := qa_ift (q := 46) (qa_e rfl h) rfl (qa_T_ge c1)
      have e0 : mc_74_73_p19 N l1 l2 s = .inr (s.1, s.2) := by exact Eq.trans (if_neg c1) (rfl)
      rw [qa_whr e0]
      exact ⟨_, _, q61_mono f F _ _ _ _ _ _ _ _ (Nat.le_of_succ_le hF) h, hM, es, g0, g1⟩
noncomputable def mc_74_73_p2 (N : Nat) (s : Int32 × qa_S) : (Int32 × qa_S) ⊕ (Int32 × qa_S) :=
  if s.1 < (s.2 73 1) then
    qa_in ((qa_wh (fun s => s) (mc_74_73_p19 N s.1 (s.2 79 s.1.toNatClampNeg)) N ((0 : Int32), s.2))) fun r2 =>
    .inl ((s.1 + (1 : Int32)), r2.2)
  else
    .inr (s.1, s.2)
theorem md_74_73_p2 {N F : Nat} {r : Option Value × q4_M} (hN : F ≤ N) : ∀ f n, f ≤ n → f ≤ F → ∀ (s : Int32 × qa_S) (lv : List (Nat × Value)) (M : q4_M), qa_O M → qa_s M = s.2 → q4_get lv 0 = some (.ref 73) → q4_get lv 1 = some (.int (s.1)) → q4_run f 74 2 lv [] M 0 0 = some r → ∃ lv M, q4_run F 74 52 lv [] M 0 0 = some r ∧ qa_O M ∧ qa_s M = (qa_wh (fun s => s) (mc_74_73_p2 N) n s).2 := by
  intro f
  induction f with
  | zero => intro n _ _ s lv M hM es _ _ h; cases h
  | succ f ih =>
    intro n hn hF s lv M hM es g0 g1 h
    obtain ⟨n, rfl⟩ : ∃ n1, n = n1 + 1 := ⟨n - 1, by omega⟩
    replace hn : f ≤ n := Nat.le_of_succ_le_succ hn
    have hN := Nat.le_trans (Nat.le_of_succ_le hF) hN
    replace h := qa_iload (n := 1) (q := 3) (qa_d rfl h) rfl g1
    replace h := qa_aload (n := 0) (q := 4) (qa_e rfl h) rfl g0
    replace h := qa_gi (j := 1) (q := 7) (qa_e rfl h) rfl hM es rfl (by decide)
    by_cases c1 : s.1 < (s.2 73 1)
    · replace h := qa_iff (q := 10) (qa_e rfl h) rfl (qa_F_ge c1)
      replace h := qa_aload (n := 0) (q := 11) (qa_e rfl h) rfl g0
      replace h := qa_gr (b := 79) (j := 3) (q := 14) (qa_e rfl h) rfl hM rfl (by decide)
      replace h := qa_iload (n := 1) (q := 15) (qa_e rfl h) rfl g1
      replace h := qa_iaload (jn := s.1.toNatClampNeg) (q := 16) (qa_e rfl h) rfl hM es rfl
      obtain ⟨lv, h, g, T⟩ := qa_istore (n := 2) (q := 17) (qa_e rfl h) rfl
      replace g0 := T _ _ g0 (by decide) (Or.inr rfl)
      replace g1 := T _ _ g1 (by decide) (Or.inr rfl)
      have g2 := g
      clear g T
      replace h := qa_push (z := (0 : Int32)) (q := 18) (qa_e rfl h) rfl (by decide)
      obtain ⟨lv, h, g, T⟩ := qa_istore (n := 3) (q := 19) (qa_e rfl h) rfl
      replace g0 := T _ _ g0 (by decide) (Or.inr rfl)
      replace g1 := T _ _ g1 (by decide) (Or.inr rfl)
      replace g2 := T _ _ g2 (by decide) (Or.inr rfl)
      have g3 := g
      clear g T
      obtain ⟨r2, er2⟩ : ∃ x, x = (qa_wh (fun s => s) (mc_74_73_p19 N s.1 (s.2 79 s.1.toNatClampNeg)) N ((0 : Int32), s.2)) := ⟨_, rfl⟩
      have L := md_74_73_p19 (l1 := s.1) (l2 := (s.2 79 s.1.toNatClampNeg)) (F := f) (N := N) (r := r) hN f N hN (Nat.le_refl f) ((0 : Int32), s.2) _ _ hM es g0 g1 g2 g3 h
      rw [← er2] at L
      obtain ⟨lv, M, h, hM, es, g0, g1⟩ := L
      obtain ⟨lv, h, g, T⟩ := qa_iinc (n := 1) (z := (1 : Int32)) (q := 49) (qa_e rfl h) rfl (by decide) g1
      replace g0 := T _ _ g0 (by decide) (Or.inr rfl)
      replace g1 := g
      clear g T
      replace h := qa_goto (q := 2) (qa_e rfl h) rfl
      have e0 : mc_74_73_p2 N s = .inl ((s.1 + (1 : Int32)), r2.2) := by exact Eq.trans (if_pos c1) (Eq.trans (qa_ie er2) (rfl))
      rw [qa_whl e0]
      exact ih n hn (Nat.le_of_succ_le hF) ((s.1 + (1 : Int32)), r2.2) _ _ hM es g0 g1 h
    · replace h := qa_ift (q := 52) (qa_e rfl h) rfl (qa_T_ge c1)
      have e0 : mc_74_73_p2 N s = .inr (s.1, s.2) := by exact Eq.trans (if_neg c1) (rfl)
      rw [qa_whr e0]
      exact ⟨_, _, q61_mono f F _ _ _ _ _ _ _ _ (Nat.le_of_succ_le hF) h, hM, es⟩
/-- BuriedBySevens$Glasses, cutAll, ()V -/
noncomputable def ma_74_73 (N : Nat) (σ : qa_S) : qa_S :=
  qa_in ((qa_wh (fun s => s) (mc_74_73_p2 N) N ((1 : Int32), σ))) fun r1 =>
  r1.2
theorem mb_74_73 {f N : Nat} (hN : f ≤ N) {M : q4_M} {r : Option Value × q4_M} {σ : qa_S} (hM : qa_O M) (es : qa_s M = σ) (h : q4_run f 74 0 (lv_args 0 [.ref 73]) [] M 0 0 = some r) : r.1 = none ∧ qa_O r.2 ∧ qa_s r.2 = (ma_74_73 N σ) := by
  obtain ⟨lv, el⟩ : ∃ l, l = lv_args 0 [.ref 73] := ⟨_, rfl⟩
  have g0 : q4_get lv 0 = some (.ref 73) := by rw [el]; rfl
  rw [← el] at h
  clear el
  replace h := qa_push (z := (1 : Int32)) (q := 1) (qa_e rfl h) rfl (by decide)
  obtain ⟨lv, h, g, T⟩ := qa_istore (n := 1) (q := 2) (qa_e rfl h) rfl
  replace g0 := T _ _ g0 (by decide) (Or.inr rfl)
  have g1 := g
  clear g T
  obtain ⟨r1, er1⟩ : ∃ x, x = (qa_wh (fun s => s) (mc_74_73_p2 N) N ((1 : Int32), σ)) := ⟨_, rfl⟩
  have L := md_74_73_p2 (F := f) (N := N) (r := r) hN f N hN (Nat.le_refl f) ((1 : Int32), σ) _ _ hM es g0 g1 h
  rw [← er1] at L
  obtain ⟨lv, M, h, hM, es⟩ := L
  have er := qa_rv (qa_e rfl h)
  subst er
  have e0 : ma_74_73 N σ = r1.2 := by exact Eq.trans (qa_ie er1) (rfl)
  rw [e0]
  exact ⟨rfl, hM, es⟩
/-- BuriedBySevens$Glasses, mixAll, (LBuriedBySevens$Cellar;)V -/
noncomputable def ma_73_73_4 (N : Nat) (σ : qa_S) : qa_S :=
  qa_in (qa_u σ 73 0 (σ 4 0)) fun m1 =>
  qa_in (qa_u m1 73 1 (m1 1 (m1 73 0).toNatClampNeg)) fun m2 =>
  qa_in ((qa_wh (fun s => s) (mc_73_73_4_p27 N) N (((m2 73 0) - (1 : Int32)), m2))) fun r3 =>
  qa_in ((ma_74_73 N r3.2)) fun m4 =>
  m4
theorem mb_73_73_4 {f N : Nat} (hN : f ≤ N) {M : q4_M} {r : Option Value × q4_M} {σ : qa_S} (hM : qa_O M) (es : qa_s M = σ) (h : q4_run f 73 0 (lv_args 0 [.ref 73, .ref 4]) [] M 0 0 = some r) : r.1 = none ∧ qa_O r.2 ∧ qa_s r.2 = (ma_73_73_4 N σ) := by
  obtain ⟨lv, el⟩ : ∃ l, l = lv_args 0 [.ref 73, .ref 4] := ⟨_, rfl⟩
  have g0 : q4_get lv 0 = some (.ref 73) := by rw [el]; rfl
  have g1 : q4_get lv 1 = some (.ref 4) := by rw [el]; rfl
  rw [← el] at h
  clear el
  replace h := qa_aload (n := 0) (q := 1) (qa_e rfl h) rfl g0
  replace h := qa_aload (n := 1) (q := 2) (qa_e rfl h) rfl g1
  replace h := qa_gi (j := 0) (q := 5) (qa_e rfl h) rfl hM es rfl (by decide)
  obtain ⟨m1, em1⟩ : ∃ x, x = qa_u σ 73 0 (σ 4 0) := ⟨_, rfl⟩
  obtain ⟨M, h, hM, es⟩ := qa_pf (j := 0) (q := 8) (qa_e rfl h) rfl hM es rfl (by decide)
  rw [← em1] at es
  replace h := qa_aload (n := 0) (q := 9) (qa_e rfl h) rfl g0
  replace h := qa_getstatic (q := 12) (qa_e rfl h) rfl
  replace h := qa_aload (n := 0) (q := 13) (qa_e rfl h) rfl g0
  replace h := qa_gi (j := 0) (q := 16) (qa_e rfl h) rfl hM es rfl (by decide)
  replace h := qa_iaload (jn := (m1 73 0).toNatClampNeg) (q := 17) (qa_e rfl h) rfl hM es rfl
  obtain ⟨m2, em2⟩ : ∃ x, x = qa_u m1 73 1 (m1 1 (m1 73 0).toNatClampNeg) := ⟨_, rfl⟩
  obtain ⟨M, h, hM, es⟩ := qa_pf (j := 1) (q := 20) (qa_e rfl h) rfl hM es rfl (by decide)
  rw [← em2] at es
  replace h := qa_aload (n := 0) (q := 21) (qa_e rfl h) rfl g0
  replace h := qa_gi (j := 0) (q := 24) (qa_e rfl h) rfl hM es rfl (by decide)
  replace h := qa_push (z := (1 : Int32)) (q := 25) (qa_e rfl h) rfl (by decide)
  replace h := qa_isub (q := 26) (qa_e rfl h) rfl
  obtain ⟨lv, h, g, T⟩ := qa_istore (n := 2) (q := 27) (qa_e rfl h) rfl
  replace g0 := T _ _ g0 (by decide) (Or.inr rfl)
  replace g1 := T _ _ g1 (by decide) (Or.inr rfl)
  have g2 := g
  clear g T
  obtain ⟨r3, er3⟩ : ∃ x, x = (qa_wh (fun s => s) (mc_73_73_4_p27 N) N (((m2 73 0) - (1 : Int32)), m2)) := ⟨_, rfl⟩
  have L := md_73_73_4_p27 (F := f) (N := N) (r := r) hN f N hN (Nat.le_refl f) (((m2 73 0) - (1 : Int32)), m2) _ _ hM es g0 g1 g2 h
  rw [← er3] at L
  obtain ⟨lv, M, h, hM, es, g0⟩ := L
  replace h := qa_aload (n := 0) (q := 133) (qa_e rfl h) rfl g0
  obtain ⟨m4, em4⟩ : ∃ x, x = (ma_74_73 N r3.2) := ⟨_, rfl⟩
  obtain ⟨M, h, hM, es⟩ := qa_c0 (y := 74) (as := [.ref 73]) (rest := []) (i := .invokevirtual 74) (q := 136) (qa_e rfl h) (Or.inl rfl) rfl rfl (by decide) rfl (fun r hc => mb_74_73 hN hM es hc)
  rw [← em4] at es
  have er := qa_rv (qa_e rfl h)
  subst er
  have e0 : ma_73_73_4 N σ = m4 := by exact Eq.trans (qa_ie em1) (Eq.trans (qa_ie em2) (Eq.trans (qa_ie er3) (Eq.trans (qa_ie em4) (rfl))))
  rw [e0]
  exact ⟨rfl, hM, es⟩
/-- BuriedBySevens, mixed, ()LBuriedBySevens$Glasses; -/
noncomputable def ma_72_3 (N : Nat) (σ : qa_S) : qa_S :=
  qa_in ((ma_73_73_4 N σ)) fun m2 =>
  qa_in (qa_u m2 3 18 (0 : Int32)) fun m3 =>
  qa_in ((if (σ 3 18) = (0 : Int32) then σ else m3)) fun m4 =>
  m4
theorem mb_72_3 {f N : Nat} (hN : f ≤ N) {M : q4_M} {r : Option Value × q4_M} {σ : qa_S} (hM : qa_O M) (es : qa_s M = σ) (h : q4_run f 72 0 (lv_args 0 [.ref 3]) [] M 0 0 = some r) : r.1 = some (.ref 73) ∧ qa_O r.2 ∧ qa_s r.2 = (ma_72_3 N σ) := by
  obtain ⟨lv, el⟩ : ∃ l, l = lv_args 0 [.ref 3] := ⟨_, rfl⟩
  have g0 : q4_get lv 0 = some (.ref 3) := by rw [el]; rfl
  rw [← el] at h
  clear el
  replace h := qa_aload (n := 0) (q := 1) (qa_e rfl h) rfl g0
  replace h := qa_gi (j := 18) (q := 4) (qa_e rfl h) rfl hM es rfl (by decide)
  obtain ⟨m2, em2⟩ : ∃ x, x = (ma_73_73_4 N σ) := ⟨_, rfl⟩
  obtain ⟨m3, em3⟩ : ∃ x, x = qa_u m2 3 18 (0 : Int32) := ⟨_, rfl⟩
  obtain ⟨m4, em4⟩ : ∃ x, x = (if (σ 3 18) = (0 : Int32) then σ else m3) := ⟨_, rfl⟩
  obtain ⟨lv, M, h, hM, es, g0⟩ : ∃ lv M, q4_run f 72 23 lv [] M 0 0 = some r ∧ qa_O M ∧ qa_s M = m4 ∧ q4_get lv 0 = some (.ref 3) := by
    by_cases c1 : (σ 3 18) = (0 : Int32)
    · replace h := qa_ict (q := 23) (qa_e rfl h) rfl (qa_T_eq c1)
      exact ⟨lv, M, h, hM, ((qa_ms1 c1 es).trans em4.symm), g0⟩
    · replace h := qa_icf (q := 7) (qa_e rfl h) rfl (qa_F_eq c1)
      replace h := qa_aload (n := 0) (q := 8) (qa_e rfl h) rfl g0
      replace h := qa_gr (b := 73) (j := 3) (q := 11) (qa_e rfl h) rfl hM rfl (by decide)
      replace h := qa_aload (n := 0) (q := 12) (qa_e rfl h) rfl g0
      replace h := qa_gr (b := 4) (j := 0) (q := 15) (qa_e rfl h) rfl hM rfl (by decide)
      obtain ⟨M, h, hM, es⟩ := qa_c0 (y := 73) (as := [.ref 73, .ref 4]) (rest := []) (i := .invokevirtual 73) (q := 18) (qa_e rfl h) (Or.inl rfl) rfl rfl (by decide) rfl (fun r hc => mb_73_73_4 hN hM es hc)
      rw [← em2] at es
      replace h := qa_aload (n := 0) (q := 19) (qa_e rfl h) rfl g0
      replace h := qa_push (z := (0 : Int32)) (q := 20) (qa_e rfl h) rfl (by decide)
      obtain ⟨M, h, hM, es⟩ := qa_pf (j := 18) (q := 23) (qa_e rfl h) rfl hM es rfl (by decide)
      rw [← em3] at es
      exact ⟨lv, M, h, hM, ((qa_ms0 c1 es).trans em4.symm), g0⟩
  replace h := qa_aload (n := 0) (q := 24) (qa_e rfl h) rfl g0
  replace h := qa_gr (b := 73) (j := 3) (q := 27) (qa_e rfl h) rfl hM rfl (by decide)
  have er := qa_ra (qa_e rfl h)
  subst er
  have e0 : ma_72_3 N σ = m4 := by exact Eq.trans (qa_ie em2) (Eq.trans (qa_ie em3) (Eq.trans (qa_ie em4) (rfl)))
  rw [e0]
  exact ⟨rfl, hM, es⟩
noncomputable def mc_76_73_80_p2 (N : Nat) (l2 : Int32) (σ : qa_S) (s : Int32) : (Int32) ⊕ ((Int32) ⊕ (Int32)) :=
  if s < (4 : Int32) then
    if (σ (75 + s.toNatClampNeg) l2.toNatClampNeg) < (σ 81 s.toNatClampNeg) then
      .inr (.inl (0 : Int32))
    else
      if (σ 82 s.toNatClampNeg) < (σ (75 + s.toNatClampNeg) l2.toNatClampNeg) then
        .inr (.inl (0 : Int32))
      else
        .inl (s + (1 : Int32))
  else
    .inr (.inr s)
theorem md_76_73_80_p2 {N F : Nat} {r : Option Value × q4_M} {l2 : Int32} {σ : qa_S} (hN : F ≤ N) : ∀ f n, f ≤ n → f ≤ F → ∀ (s : Int32) (lv : List (Nat × Value)) (M : q4_M), qa_O M → qa_s M = σ → q4_get lv 0 = some (.ref 73) → q4_get lv 1 = some (.ref 80) → q4_get lv 2 = some (.int (l2)) → q4_get lv 3 = some (.int (s)) → q4_run f 76 2 lv [] M 0 0 = some r → (∀ b, (qa_wh (fun s => .inr s) (mc_76_73_80_p2 N l2 σ) n s) = .inl b → r.1 = some (.int (b)) ∧ qa_O r.2 ∧ qa_s r.2 = σ) ∧ (∀ b, (qa_wh (fun s => .inr s) (mc_76_73_80_p2 N l2 σ) n s) = .inr b → ∃ lv M, q4_run F 76 47 lv [] M 0 0 = some r ∧ qa_O M ∧ qa_s M = σ) := by
  intro f
  induction f with
  | zero => intro n _ _ s lv M hM es _ _ _ _ h; cases h
  | succ f ih =>
    intro n hn hF s lv M hM es g0 g1 g2 g3 h
    obtain ⟨n, rfl⟩ : ∃ n1, n = n1 + 1 := ⟨n - 1, by omega⟩
    replace hn : f ≤ n := Nat.le_of_succ_le_succ hn
    have hN := Nat.le_trans (Nat.le_of_succ_le hF) hN
    replace h := qa_iload (n := 3) (q := 3) (qa_d rfl h) rfl g3
    replace h := qa_push (z := (4 : Int32)) (q := 4) (qa_e rfl h) rfl (by decide)
    by_cases c1 : s < (4 : Int32)
    · replace h := qa_iff (q := 7) (qa_e rfl h) rfl (qa_F_ge c1)
      replace h := qa_aload (n := 0) (q := 8) (qa_e rfl h) rfl g0
      replace h := qa_gr (b := 74) (j := 2) (q := 11) (qa_e rfl h) rfl hM rfl (by decide)
      replace h := qa_iload (n := 3) (q := 12) (qa_e rfl h) rfl g3
      replace h := qa_aaload (b := 75) (jn := s.toNatClampNeg) (q := 13) (qa_e rfl h) rfl hM rfl (by decide) (by decide +kernel)
      replace h := qa_iload (n := 2) (q := 14) (qa_e rfl h) rfl g2
      replace h := qa_iaload (jn := l2.toNatClampNeg) (q := 15) (qa_e rfl h) rfl hM es rfl
      obtain ⟨lv, h, g, T⟩ := qa_istore (n := 4) (q := 17) (qa_e rfl h) rfl
      replace g0 := T _ _ g0 (by decide) (Or.inr rfl)
      replace g1 := T _ _ g1 (by decide) (Or.inr rfl)
      replace g2 := T _ _ g2 (by decide) (Or.inr rfl)
      replace g3 := T _ _ g3 (by decide) (Or.inr rfl)
      have g4 := g
      clear g T
      replace h := qa_iload (n := 4) (q := 19) (qa_e rfl h) rfl g4
      replace h := qa_aload (n := 1) (q := 20) (qa_e rfl h) rfl g1
      replace h := qa_gr (b := 81) (j := 0) (q := 23) (qa_e rfl h) rfl hM rfl (by decide)
      replace h := qa_iload (n := 3) (q := 24) (qa_e rfl h) rfl g3
      replace h := qa_iaload (jn := s.toNatClampNeg) (q := 25) (qa_e rfl h) rfl hM es rfl
      by_cases c2 : (σ (75 + s.toNatClampNeg) l2.toNatClampNeg) < (σ 81 s.toNatClampNeg)
      · replace h := qa_ift (q := 39) (qa_e rfl h) rfl (qa_T_lt c2)
        replace h := qa_push (z := (0 : Int32)) (q := 40) (qa_e rfl h) rfl (by decide)
        have er := qa_ri (qa_e rfl h)
        subst er
        have e0 : mc_76_73_80_p2 N l2 σ s = .inr (.inl (0 : Int32)) := by exact Eq.trans (if_pos c1) (Eq.trans (if_pos c2) (rfl))
        rw [qa_whr e0]
        exact ⟨fun b hb => (by have e := Sum.inl.inj hb; subst e; exact ⟨rfl, hM, es⟩), fun b hb => nomatch hb⟩
      · replace h := qa_iff (q := 28) (qa_e rfl h) rfl (qa_F_lt c2)
        replace h := qa_iload (n := 4) (q := 30) (qa_e rfl h) rfl g4
        replace h := qa_aload (n := 1) (q := 31) (qa_e rfl h) rfl g1
        replace h := qa_gr (b := 82) (j := 1) (q := 34) (qa_e rfl h) rfl hM rfl (by decide)
        replace h := qa_iload (n := 3) (q := 35) (qa_e rfl h) rfl g3
        replace h := qa_iaload (jn := s.toNatClampNeg) (q := 36) (qa_e rfl h) rfl hM es rfl
        by_cases c3 : (σ 82 s.toNatClampNeg) < (σ (75 + s.toNatClampNeg) l2.toNatClampNeg)
        · replace h := qa_iff (q := 39) (qa_e rfl h) rfl (qa_F_le c3)
          replace h := qa_push (z := (0 : Int32)) (q := 40) (qa_e rfl h) rfl (by decide)
          have er := qa_ri (qa_e rfl h)
          subst er
          have e0 : mc_76_73_80_p2 N l2 σ s = .inr (.inl (0 : Int32)) := by exact Eq.trans (if_pos c1) (Eq.trans (if_neg c2) (Eq.trans (if_pos c3) (rfl)))
          rw [qa_whr e0]
          exact ⟨fun b hb => (by have e := Sum.inl.inj hb; subst e; exact ⟨rfl, hM, es⟩), fun b hb => nomatch hb⟩
        · replace h := qa_ift (q := 41) (qa_e rfl h) rfl (qa_T_le c3)
          obtain ⟨lv, h, g, T⟩ := qa_iinc (n := 3) (z := (1 : Int32)) (q := 44) (qa_e rfl h) rfl (by decide) g3
          replace g0 := T _ _ g0 (by decide) (Or.inr rfl)
          replace g1 := T _ _ g1 (by decide) (Or.inr rfl)
          replace g2 := T _ _ g2 (by decide) (Or.inr rfl)
          replace g3 := g
          clear g T
          replace h := qa_goto (q := 2) (qa_e rfl h) rfl
          have e0 : mc_76_73_80_p2 N l2 σ s = .inl (s + (1 : Int32)) := by exact Eq.trans (if_pos c1) (Eq.trans (if_neg c2) (Eq.trans (if_neg c3) (rfl)))
          rw [qa_whl e0]
          exact ih n hn (Nat.le_of_succ_le hF) (s + (1 : Int32)) _ _ hM es g0 g1 g2 g3 h
    · replace h := qa_ift (q := 47) (qa_e rfl h) rfl (qa_T_ge c1)
      have e0 : mc_76_73_80_p2 N l2 σ s = .inr (.inr s) := by exact Eq.trans (if_neg c1) (rfl)
      rw [qa_whr e0]
      exact ⟨fun b hb => (nomatch hb), fun b hb => (by have e := Sum.inr.inj hb; subst e; exact ⟨_, _, q61_mono f F _ _ _ _ _ _ _ _ (Nat.le_of_succ_le hF) h, hM, es⟩)⟩
/-- BuriedBySevens$Glasses, isIn, (LBuriedBySevens$Window;I)Z -/
noncomputable def ma_76_73_80 (N : Nat) (a2 : Int32) (σ : qa_S) : Int32 :=
  qa_in ((qa_wh (fun s => .inr s) (mc_76_73_80_p2 N a2 σ) N (0 : Int32))) fun r1 =>
  qa_cs r1
    (fun b2 =>
      b2)
    (fun b2 =>
      (1 : Int32))
theorem mb_76_73_80 {f N : Nat} (hN : f ≤ N) {M : q4_M} {r : Option Value × q4_M} {σ : qa_S} {a2 : Int32} (hM : qa_O M) (es : qa_s M = σ) (h : q4_run f 76 0 (lv_args 0 [.ref 73, .ref 80, .int (a2)]) [] M 0 0 = some r) : r.1 = some (.int ((ma_76_73_80 N a2 σ))) ∧ qa_O r.2 ∧ qa_s r.2 = σ := by
  obtain ⟨lv, el⟩ : ∃ l, l = lv_args 0 [.ref 73, .ref 80, .int (a2)] := ⟨_, rfl⟩
  have g0 : q4_get lv 0 = some (.ref 73) := by rw [el]; rfl
  have g1 : q4_get lv 1 = some (.ref 80) := by rw [el]; rfl
  have g2 : q4_get lv 2 = some (.int (a2)) := by rw [el]; rfl
  rw [← el] at h
  clear el
  replace h := qa_push (z := (0 : Int32)) (q := 1) (qa_e rfl h) rfl (by decide)
  obtain ⟨lv, h, g, T⟩ := qa_istore (n := 3) (q := 2) (qa_e rfl h) rfl
  replace g0 := T _ _ g0 (by decide) (Or.inr rfl)
  replace g1 := T _ _ g1 (by decide) (Or.inr rfl)
  replace g2 := T _ _ g2 (by decide) (Or.inr rfl)
  have g3 := g
  clear g T
  obtain ⟨r1, er1⟩ : ∃ x, x = (qa_wh (fun s => .inr s) (mc_76_73_80_p2 N a2 σ) N (0 : Int32)) := ⟨_, rfl⟩
  have L := md_76_73_80_p2 (l2 := a2) (σ := σ) (F := f) (N := N) (r := r) hN f N hN (Nat.le_refl f) (0 : Int32) _ _ hM es g0 g1 g2 g3 h
  rw [← er1] at L
  rcases qr1 : r1 with b2 | b2
  · obtain ⟨h, hM, es⟩ := L.1 b2 qr1
    have e0 : ma_76_73_80 N a2 σ = b2 := by exact Eq.trans (qa_ie er1) (Eq.trans (qa_csl qr1 _ _) (rfl))
    rw [e0]
    exact ⟨h, hM, es⟩
  · obtain ⟨lv, M, h, hM, es⟩ := L.2 b2 qr1
    replace h := qa_push (z := (1 : Int32)) (q := 48) (qa_e rfl h) rfl (by decide)
    have er := qa_ri (qa_e rfl h)
    subst er
    have e0 : ma_76_73_80 N a2 σ = (1 : Int32) := by exact Eq.trans (qa_ie er1) (Eq.trans (qa_csr qr1 _ _) (rfl))
    rw [e0]
    exact ⟨rfl, hM, es⟩
noncomputable def mc_75_73_80_p4 (N : Nat) (σ : qa_S) (s : Int32 × Int32) : (Int32 × Int32) ⊕ (Int32 × Int32) :=
  if s.1 < (σ 73 1) then
    qa_in ((ma_76_73_80 N s.1 σ)) fun r2 =>
    .inl ((s.1 + (1 : Int32)), (if r2 = (0 : Int32) then s.2 else (s.2 + (1 : Int32))))
  else
    .inr (s.1, s.2)
theorem md_75_73_80_p4 {N F : Nat} {r : Option Value × q4_M} {σ : qa_S} (hN : F ≤ N) : ∀ f n, f ≤ n → f ≤ F → ∀ (s : Int32 × Int32) (lv : List (Nat × Value)) (M : q4_M), qa_O M → qa_s M = σ → q4_get lv 0 = some (.ref 73) → q4_get lv 1 = some (.ref 80) → q4_get lv 2 = some (.int (s.2)) → q4_get lv 3 = some (.int (s.1)) → q4_run f 75 4 lv [] M 0 0 = some r → ∃ lv M, q4_run F 75 30 lv [] M 0 0 = some r ∧ qa_O M ∧ qa_s M = σ ∧ q4_get lv 2 = some (.int ((qa_wh (fun s => s) (mc_75_73_80_p4 N σ) n s).2)) := by
  intro f
  induction f with
  | zero => intro n _ _ s lv M hM es _ _ _ _ h; cases h
  | succ f ih =>
    intro n hn hF s lv M hM es g0 g1 g2 g3 h
    obtain ⟨n, rfl⟩ : ∃ n1, n = n1 + 1 := ⟨n - 1, by omega⟩
    replace hn : f ≤ n := Nat.le_of_succ_le_succ hn
    have hN := Nat.le_trans (Nat.le_of_succ_le hF) hN
    replace h := qa_iload (n := 3) (q := 5) (qa_d rfl h) rfl g3
    replace h := qa_aload (n := 0) (q := 6) (qa_e rfl h) rfl g0
    replace h := qa_gi (j := 1) (q := 9) (qa_e rfl h) rfl hM es rfl (by decide)
    by_cases c1 : s.1 < (σ 73 1)
    · replace h := qa_iff (q := 12) (qa_e rfl h) rfl (qa_F_ge c1)
      replace h := qa_aload (n := 0) (q := 13) (qa_e rfl h) rfl g0
      replace h := qa_aload (n := 1) (q := 14) (qa_e rfl h) rfl g1
      replace h := qa_iload (n := 3) (q := 15) (qa_e rfl h) rfl g3
      obtain ⟨r2, er2⟩ : ∃ x, x = (ma_76_73_80 N s.1 σ) := ⟨_, rfl⟩
      obtain ⟨M, h, hM, es⟩ := qa_c1 (y := 76) (as := [.ref 73, .ref 80, .int (s.1)]) (rest := []) (i := .invokevirtual 76) (q := 18) (qa_e rfl h) (Or.inl rfl) rfl rfl (by decide) rfl (fun r hc => mb_76_73_80 hN hM es hc)
      rw [← er2] at h
      obtain ⟨lv, M, h, hM, es, g0, g1, g2, g3⟩ : ∃ lv M, q4_run f 75 24 lv [] M 0 0 = some r ∧ qa_O M ∧ qa_s M = σ ∧ q4_get lv 0 = some (.ref 73) ∧ q4_get lv 1 = some (.ref 80) ∧ q4_get lv 2 = some (.int ((if r2 = (0 : Int32) then s.2 else (s.2 + (1 : Int32))))) ∧ q4_get lv 3 = some (.int (s.1)) := by
        by_cases c3 : r2 = (0 : Int32)
        · replace h := qa_ict (q := 24) (qa_e rfl h) rfl (qa_T_eq c3)
          exact ⟨lv, M, h, hM, es, g0, g1, (qa_gi1 c3 g2), g3⟩
        · replace h := qa_icf (q := 21) (qa_e rfl h) rfl (qa_F_eq c3)
          obtain ⟨lv, h, g, T⟩ := qa_iinc (n := 2) (z := (1 : Int32)) (q := 24) (qa_e rfl h) rfl (by decide) g2
          replace g0 := T _ _ g0 (by decide) (Or.inr rfl)
          replace g1 := T _ _ g1 (by decide) (Or.inr rfl)
          replace g3 := T _ _ g3 (by decide) (Or.inr rfl)
          replace g2 := g
          clear g T
          exact ⟨lv, M, h, hM, es, g0, g1, (qa_gi0 c3 g2), g3⟩
      obtain ⟨lv, h, g, T⟩ := qa_iinc (n := 3) (z := (1 : Int32)) (q := 27) (qa_e rfl h) rfl (by decide) g3
      replace g0 := T _ _ g0 (by decide) (Or.inr rfl)
      replace g1 := T _ _ g1 (by decide) (Or.inr rfl)
      replace g2 := T _ _ g2 (by decide) (Or.inr rfl)
      replace g3 := g
      clear g T
      replace h := qa_goto (q := 4) (qa_e rfl h) rfl
      have e0 : mc_75_73_80_p4 N σ s = .inl ((s.1 + (1 : Int32)), (if r2 = (0 : Int32) then s.2 else (s.2 + (1 : Int32)))) := by exact Eq.trans (if_pos c1) (Eq.trans (qa_ie er2) (rfl))
      rw [qa_whl e0]
      exact ih n hn (Nat.le_of_succ_le hF) ((s.1 + (1 : Int32)), (if r2 = (0 : Int32) then s.2 else (s.2 + (1 : Int32)))) _ _ hM es g0 g1 g2 g3 h
    · replace h := qa_ift (q := 30) (qa_e rfl h) rfl (qa_T_ge c1)
      have e0 : mc_75_73_80_p4 N σ s = .inr (s.1, s.2) := by exact Eq.trans (if_neg c1) (rfl)
      rw [qa_whr e0]
      exact ⟨_, _, q61_mono f F _ _ _ _ _ _ _ _ (Nat.le_of_succ_le hF) h, hM, es, g2⟩
/-- BuriedBySevens$Glasses, countIn, (LBuriedBySevens$Window;)I -/
noncomputable def ma_75_73_80 (N : Nat) (σ : qa_S) : Int32 :=
  qa_in ((qa_wh (fun s => s) (mc_75_73_80_p4 N σ) N ((1 : Int32), (0 : Int32)))) fun r1 =>
  r1.2
theorem mb_75_73_80 {f N : Nat} (hN : f ≤ N) {M : q4_M} {r : Option Value × q4_M} {σ : qa_S} (hM : qa_O M) (es : qa_s M = σ) (h : q4_run f 75 0 (lv_args 0 [.ref 73, .ref 80]) [] M 0 0 = some r) : r.1 = some (.int ((ma_75_73_80 N σ))) ∧ qa_O r.2 ∧ qa_s r.2 = σ := by
  obtain ⟨lv, el⟩ : ∃ l, l = lv_args 0 [.ref 73, .ref 80] := ⟨_, rfl⟩
  have g0 : q4_get lv 0 = some (.ref 73) := by rw [el]; rfl
  have g1 : q4_get lv 1 = some (.ref 80) := by rw [el]; rfl
  rw [← el] at h
  clear el
  replace h := qa_push (z := (0 : Int32)) (q := 1) (qa_e rfl h) rfl (by decide)
  obtain ⟨lv, h, g, T⟩ := qa_istore (n := 2) (q := 2) (qa_e rfl h) rfl
  replace g0 := T _ _ g0 (by decide) (Or.inr rfl)
  replace g1 := T _ _ g1 (by decide) (Or.inr rfl)
  have g2 := g
  clear g T
  replace h := qa_push (z := (1 : Int32)) (q := 3) (qa_e rfl h) rfl (by decide)
  obtain ⟨lv, h, g, T⟩ := qa_istore (n := 3) (q := 4) (qa_e rfl h) rfl
  replace g0 := T _ _ g0 (by decide) (Or.inr rfl)
  replace g1 := T _ _ g1 (by decide) (Or.inr rfl)
  replace g2 := T _ _ g2 (by decide) (Or.inr rfl)
  have g3 := g
  clear g T
  obtain ⟨r1, er1⟩ : ∃ x, x = (qa_wh (fun s => s) (mc_75_73_80_p4 N σ) N ((1 : Int32), (0 : Int32))) := ⟨_, rfl⟩
  have L := md_75_73_80_p4 (σ := σ) (F := f) (N := N) (r := r) hN f N hN (Nat.le_refl f) ((1 : Int32), (0 : Int32)) _ _ hM es g0 g1 g2 g3 h
  rw [← er1] at L
  obtain ⟨lv, M, h, hM, es, g2⟩ := L
  replace h := qa_iload (n := 2) (q := 31) (qa_e rfl h) rfl g2
  have er := qa_ri (qa_e rfl h)
  subst er
  have e0 : ma_75_73_80 N σ = r1.2 := by exact Eq.trans (qa_ie er1) (rfl)
  rw [e0]
  exact ⟨rfl, hM, es⟩
noncomputable def mc_77_73_80_p2 (N : Nat) (σ : qa_S) (s : Int32) : (Int32) ⊕ ((Int32) ⊕ (Int32)) :=
  if s < (σ 73 1) then
    qa_in ((ma_76_73_80 N s σ)) fun r2 =>
    if r2 = (0 : Int32) then
      .inl (s + (1 : Int32))
    else
      .inr (.inl s)
  else
    .inr (.inr s)
theorem md_77_73_80_p2 {N F : Nat} {r : Option Value × q4_M} {σ : qa_S} (hN : F ≤ N) : ∀ f n, f ≤ n → f ≤ F → ∀ (s : Int32) (lv : List (Nat × Value)) (M : q4_M), qa_O M → qa_s M = σ → q4_get lv 0 = some (.ref 73) → q4_get lv 1 = some (.ref 80) → q4_get lv 2 = some (.int (s)) → q4_run f 77 2 lv [] M 0 0 = some r → (∀ b, (qa_wh (fun s => .inr s) (mc_77_73_80_p2 N σ) n s) = .inl b → r.1 = some (.int (b)) ∧ qa_O r.2 ∧ qa_s r.2 = σ) ∧ (∀ b, (qa_wh (fun s => .inr s) (mc_77_73_80_p2 N σ) n s) = .inr b → ∃ lv M, q4_run F 77 27 lv [] M 0 0 = some r ∧ qa_O M ∧ qa_s M = σ) := by
  intro f
  induction f with
  | zero => intro n _ _ s lv M hM es _ _ _ h; cases h
  | succ f ih =>
    intro n hn hF s lv M hM es g0 g1 g2 h
    obtain ⟨n, rfl⟩ : ∃ n1, n = n1 + 1 := ⟨n - 1, by omega⟩
    replace hn : f ≤ n := Nat.le_of_succ_le_succ hn
    have hN := Nat.le_trans (Nat.le_of_succ_le hF) hN
    replace h := qa_iload (n := 2) (q := 3) (qa_d rfl h) rfl g2
    replace h := qa_aload (n := 0) (q := 4) (qa_e rfl h) rfl g0
    replace h := qa_gi (j := 1) (q := 7) (qa_e rfl h) rfl hM es rfl (by decide)
    by_cases c1 : s < (σ 73 1)
    · replace h := qa_iff (q := 10) (qa_e rfl h) rfl (qa_F_ge c1)
      replace h := qa_aload (n := 0) (q := 11) (qa_e rfl h) rfl g0
      replace h := qa_aload (n := 1) (q := 12) (qa_e rfl h) rfl g1
      replace h := qa_iload (n := 2) (q := 13) (qa_e rfl h) rfl g2
      obtain ⟨r2, er2⟩ : ∃ x, x = (ma_76_73_80 N s σ) := ⟨_, rfl⟩
      obtain ⟨M, h, hM, es⟩ := qa_c1 (y := 76) (as := [.ref 73, .ref 80, .int (s)]) (rest := []) (i := .invokevirtual 76) (q := 16) (qa_e rfl h) (Or.inl rfl) rfl rfl (by decide) rfl (fun r hc => mb_76_73_80 hN hM es hc)
      rw [← er2] at h
      by_cases c3 : r2 = (0 : Int32)
      · replace h := qa_ict (q := 21) (qa_e rfl h) rfl (qa_T_eq c3)
        obtain ⟨lv, h, g, T⟩ := qa_iinc (n := 2) (z := (1 : Int32)) (q := 24) (qa_e rfl h) rfl (by decide) g2
        replace g0 := T _ _ g0 (by decide) (Or.inr rfl)
        replace g1 := T _ _ g1 (by decide) (Or.inr rfl)
        replace g2 := g
        clear g T
        replace h := qa_goto (q := 2) (qa_e rfl h) rfl
        have e0 : mc_77_73_80_p2 N σ s = .inl (s + (1 : Int32)) := by exact Eq.trans (if_pos c1) (Eq.trans (qa_ie er2) (Eq.trans (if_pos c3) (rfl)))
        rw [qa_whl e0]
        exact ih n hn (Nat.le_of_succ_le hF) (s + (1 : Int32)) _ _ hM es g0 g1 g2 h
      · replace h := qa_icf (q := 19) (qa_e rfl h) rfl (qa_F_eq c3)
        replace h := qa_iload (n := 2) (q := 20) (qa_e rfl h) rfl g2
        have er := qa_ri (qa_e rfl h)
        subst er
        have e0 : mc_77_73_80_p2 N σ s = .inr (.inl s) := by exact Eq.trans (if_pos c1) (Eq.trans (qa_ie er2) (Eq.trans (if_neg c3) (rfl)))
        rw [qa_whr e0]
        exact ⟨fun b hb => (by have e := Sum.inl.inj hb; subst e; exact ⟨rfl, hM, es⟩), fun b hb => nomatch hb⟩
    · replace h := qa_ift (q := 27) (qa_e rfl h) rfl (qa_T_ge c1)
      have e0 : mc_77_73_80_p2 N σ s = .inr (.inr s) := by exact Eq.trans (if_neg c1) (rfl)
      rw [qa_whr e0]
      exact ⟨fun b hb => (nomatch hb), fun b hb => (by have e := Sum.inr.inj hb; subst e; exact ⟨_, _, q61_mono f F _ _ _ _ _ _ _ _ (Nat.le_of_succ_le hF) h, hM, es⟩)⟩
/-- BuriedBySevens$Glasses, firstIn, (LBuriedBySevens$Window;)I -/
noncomputable def ma_77_73_80 (N : Nat) (σ : qa_S) : Int32 :=
  qa_in ((qa_wh (fun s => .inr s) (mc_77_73_80_p2 N σ) N (1 : Int32))) fun r1 =>
  qa_cs r1
    (fun b2 =>
      b2)
    (fun b2 =>
      (0 : Int32))
theorem mb_77_73_80 {f N : Nat} (hN : f ≤ N) {M : q4_M} {r : Option Value × q4_M} {σ : qa_S} (hM : qa_O M) (es : qa_s M = σ) (h : q4_run f 77 0 (lv_args 0 [.ref 73, .ref 80]) [] M 0 0 = some r) : r.1 = some (.int ((ma_77_73_80 N σ))) ∧ qa_O r.2 ∧ qa_s r.2 = σ := by
  obtain ⟨lv, el⟩ : ∃ l, l = lv_args 0 [.ref 73, .ref 80] := ⟨_, rfl⟩
  have g0 : q4_get lv 0 = some (.ref 73) := by rw [el]; rfl
  have g1 : q4_get lv 1 = some (.ref 80) := by rw [el]; rfl
  rw [← el] at h
  clear el
  replace h := qa_push (z := (1 : Int32)) (q := 1) (qa_e rfl h) rfl (by decide)
  obtain ⟨lv, h, g, T⟩ := qa_istore (n := 2) (q := 2) (qa_e rfl h) rfl
  replace g0 := T _ _ g0 (by decide) (Or.inr rfl)
  replace g1 := T _ _ g1 (by decide) (Or.inr rfl)
  have g2 := g
  clear g T
  obtain ⟨r1, er1⟩ : ∃ x, x = (qa_wh (fun s => .inr s) (mc_77_73_80_p2 N σ) N (1 : Int32)) := ⟨_, rfl⟩
  have L := md_77_73_80_p2 (σ := σ) (F := f) (N := N) (r := r) hN f N hN (Nat.le_refl f) (1 : Int32) _ _ hM es g0 g1 g2 h
  rw [← er1] at L
  rcases qr1 : r1 with b2 | b2
  · obtain ⟨h, hM, es⟩ := L.1 b2 qr1
    have e0 : ma_77_73_80 N σ = b2 := by exact Eq.trans (qa_ie er1) (Eq.trans (qa_csl qr1 _ _) (rfl))
    rw [e0]
    exact ⟨h, hM, es⟩
  · obtain ⟨lv, M, h, hM, es⟩ := L.2 b2 qr1
    replace h := qa_push (z := (0 : Int32)) (q := 28) (qa_e rfl h) rfl (by decide)
    have er := qa_ri (qa_e rfl h)
    subst er
    have e0 : ma_77_73_80 N σ = (0 : Int32) := by exact Eq.trans (qa_ie er1) (Eq.trans (qa_csr qr1 _ _) (rfl))
    rw [e0]
    exact ⟨rfl, hM, es⟩
/-- BuriedBySevens$Glasses, shareOf, (II)I -/
noncomputable def ma_79_73 (a1 : Int32) (a2 : Int32) (σ : qa_S) : Int32 :=
  if a2 < (0 : Int32) then
    (0 : Int32)
  else
    if a2 < (σ 73 0) then
      ((a1 / (σ 1 (((σ 73 0) - (1 : Int32)) - a2).toNatClampNeg)) - (a1 / (σ 1 (((σ 73 0) - (1 : Int32)) - a2).toNatClampNeg)) / (3 : Int32) * (3 : Int32))
    else
      (0 : Int32)
theorem mb_79_73 {f : Nat} {M : q4_M} {r : Option Value × q4_M} {σ : qa_S} {a1 : Int32} {a2 : Int32} (hM : qa_O M) (es : qa_s M = σ) (h : q4_run f 79 0 (lv_args 0 [.ref 73, .int (a1), .int (a2)]) [] M 0 0 = some r) : r.1 = some (.int ((ma_79_73 a1 a2 σ))) ∧ qa_O r.2 ∧ qa_s r.2 = σ := by
  obtain ⟨lv, el⟩ : ∃ l, l = lv_args 0 [.ref 73, .int (a1), .int (a2)] := ⟨_, rfl⟩
  have g0 : q4_get lv 0 = some (.ref 73) := by rw [el]; rfl
  have g1 : q4_get lv 1 = some (.int (a1)) := by rw [el]; rfl
  have g2 : q4_get lv 2 = some (.int (a2)) := by rw [el]; rfl
  rw [← el] at h
  clear el
  replace h := qa_iload (n := 2) (q := 1) (qa_e rfl h) rfl g2
  by_cases c1 : a2 < (0 : Int32)
  · replace h := qa_ict (q := 12) (qa_e rfl h) rfl (qa_T_lt c1)
    replace h := qa_push (z := (0 : Int32)) (q := 13) (qa_e rfl h) rfl (by decide)
    have er := qa_ri (qa_e rfl h)
    subst er
    have e0 : ma_79_73 a1 a2 σ = (0 : Int32) := by exact Eq.trans (if_pos c1) (rfl)
    rw [e0]
    exact ⟨rfl, hM, es⟩
  · replace h := qa_icf (q := 4) (qa_e rfl h) rfl (qa_F_lt c1)
    replace h := qa_iload (n := 2) (q := 5) (qa_e rfl h) rfl g2
    replace h := qa_aload (n := 0) (q := 6) (qa_e rfl h) rfl g0
    replace h := qa_gi (j := 0) (q := 9) (qa_e rfl h) rfl hM es rfl (by decide)
    by_cases c2 : a2 < (σ 73 0)
    · replace h := qa_ift (q := 14) (qa_e rfl h) rfl (qa_T_lt c2)
      replace h := qa_iload (n := 1) (q := 15) (qa_e rfl h) rfl g1
      replace h := qa_getstatic (q := 18) (qa_e rfl h) rfl
      replace h := qa_aload (n := 0) (q := 19) (qa_e rfl h) rfl g0
      replace h := qa_gi (j := 0) (q := 22) (qa_e rfl h) rfl hM es rfl (by decide)
      replace h := qa_push (z := (1 : Int32)) (q := 23) (qa_e rfl h) rfl (by decide)
      replace h := qa_isub (q := 24) (qa_e rfl h) rfl
      replace h := qa_iload (n := 2) (q := 25) (qa_e rfl h) rfl g2
      replace h := qa_isub (q := 26) (qa_e rfl h) rfl
      replace h := qa_iaload (jn := (((σ 73 0) - (1 : Int32)) - a2).toNatClampNeg) (q := 27) (qa_e rfl h) rfl hM es rfl
      replace h := qa_idiv (q := 28) (qa_e rfl h) rfl
      replace h := qa_push (z := (3 : Int32)) (q := 29) (qa_e rfl h) rfl (by decide)
      replace h := qa_irem (q := 30) (qa_e rfl h) rfl
      have er := qa_ri (qa_e rfl h)
      subst er
      have e0 : ma_79_73 a1 a2 σ = ((a1 / (σ 1 (((σ 73 0) - (1 : Int32)) - a2).toNatClampNeg)) - (a1 / (σ 1 (((σ 73 0) - (1 : Int32)) - a2).toNatClampNeg)) / (3 : Int32) * (3 : Int32)) := by exact Eq.trans (if_neg c1) (Eq.trans (if_pos c2) (rfl))
      rw [e0]
      exact ⟨rfl, hM, es⟩
    · replace h := qa_iff (q := 12) (qa_e rfl h) rfl (qa_F_lt c2)
      replace h := qa_push (z := (0 : Int32)) (q := 13) (qa_e rfl h) rfl (by decide)
      have er := qa_ri (qa_e rfl h)
      subst er
      have e0 : ma_79_73 a1 a2 σ = (0 : Int32) := by exact Eq.trans (if_neg c1) (Eq.trans (if_neg c2) (rfl))
      rw [e0]
      exact ⟨rfl, hM, es⟩
/-- BuriedBySevens, shareIn, (II)I -/
noncomputable def ma_78_3 (N : Nat) (a1 : Int32) (a2 : Int32) (σ : qa_S) : Int32 × qa_S :=
  if a1 < (1 : Int32) then
    ((-9 : Int32), σ)
  else
    if (ma_22_4 a2 σ) = (0 : Int32) then
      ((-9 : Int32), σ)
    else
      qa_in ((ma_72_3 N σ)) fun m3 =>
      ((ma_79_73 a1 a2 m3), m3)
theorem mb_78_3 {f N : Nat} (hN : f ≤ N) {M : q4_M} {r : Option Value × q4_M} {σ : qa_S} {a1 : Int32} {a2 : Int32} (hM : qa_O M) (es : qa_s M = σ) (h : q4_run f 78 0 (lv_args 0 [.ref 3, .int (a1), .int (a2)]) [] M 0 0 = some r) : r.1 = some (.int ((ma_78_3 N a1 a2 σ).1)) ∧ qa_O r.2 ∧ qa_s r.2 = (ma_78_3 N a1 a2 σ).2 := by
  obtain ⟨lv, el⟩ : ∃ l, l = lv_args 0 [.ref 3, .int (a1), .int (a2)] := ⟨_, rfl⟩
  have g0 : q4_get lv 0 = some (.ref 3) := by rw [el]; rfl
  have g1 : q4_get lv 1 = some (.int (a1)) := by rw [el]; rfl
  have g2 : q4_get lv 2 = some (.int (a2)) := by rw [el]; rfl
  rw [← el] at h
  clear el
  replace h := qa_iload (n := 1) (q := 1) (qa_e rfl h) rfl g1
  replace h := qa_push (z := (1 : Int32)) (q := 2) (qa_e rfl h) rfl (by decide)
  by_cases c1 : a1 < (1 : Int32)
  · replace h := qa_ift (q := 16) (qa_e rfl h) rfl (qa_T_lt c1)
    replace h := qa_push (z := (-9 : Int32)) (q := 18) (qa_e rfl h) rfl (by decide)
    have er := qa_ri (qa_e rfl h)
    subst er
    have e0 : ma_78_3 N a1 a2 σ = ((-9 : Int32), σ) := by exact Eq.trans (if_pos c1) (rfl)
    rw [e0]
    exact ⟨rfl, hM, es⟩
  · replace h := qa_iff (q := 5) (qa_e rfl h) rfl (qa_F_lt c1)
    replace h := qa_aload (n := 0) (q := 6) (qa_e rfl h) rfl g0
    replace h := qa_gr (b := 4) (j := 0) (q := 9) (qa_e rfl h) rfl hM rfl (by decide)
    replace h := qa_iload (n := 2) (q := 10) (qa_e rfl h) rfl g2
    obtain ⟨M, h, hM, es⟩ := qa_c1 (y := 22) (as := [.ref 4, .int (a2)]) (rest := []) (i := .invokevirtual 22) (q := 13) (qa_e rfl h) (Or.inl rfl) rfl rfl (by decide) rfl (fun r hc => mb_22_4 hM es hc)
    by_cases c2 : (ma_22_4 a2 σ) = (0 : Int32)
    · replace h := qa_icf (q := 16) (qa_e rfl h) rfl (qa_F_ne c2)
      replace h := qa_push (z := (-9 : Int32)) (q := 18) (qa_e rfl h) rfl (by decide)
      have er := qa_ri (qa_e rfl h)
      subst er
      have e0 : ma_78_3 N a1 a2 σ = ((-9 : Int32), σ) := by exact Eq.trans (if_neg c1) (Eq.trans (if_pos c2) (rfl))
      rw [e0]
      exact ⟨rfl, hM, es⟩
    · replace h := qa_ict (q := 19) (qa_e rfl h) rfl (qa_T_ne c2)
      replace h := qa_aload (n := 0) (q := 20) (qa_e rfl h) rfl g0
      obtain ⟨m3, em3⟩ : ∃ x, x = (ma_72_3 N σ) := ⟨_, rfl⟩
      obtain ⟨M, h, hM, es⟩ := qa_c1 (y := 72) (as := [.ref 3]) (rest := []) (i := .invokevirtual 72) (q := 23) (qa_e rfl h) (Or.inl rfl) rfl rfl (by decide) rfl (fun r hc => mb_72_3 hN hM es hc)
      rw [← em3] at es
      replace h := qa_iload (n := 1) (q := 24) (qa_e rfl h) rfl g1
      replace h := qa_iload (n := 2) (q := 25) (qa_e rfl h) rfl g2
      obtain ⟨M, h, hM, es⟩ := qa_c1 (y := 79) (as := [.ref 73, .int (a1), .int (a2)]) (rest := []) (i := .invokevirtual 79) (q := 28) (qa_e rfl h) (Or.inl rfl) rfl rfl (by decide) rfl (fun r hc => mb_79_73 hM es hc)
      have er := qa_ri (qa_e rfl h)
      subst er
      have e0 : ma_78_3 N a1 a2 σ = ((ma_79_73 a1 a2 m3), m3) := by exact Eq.trans (if_neg c1) (Eq.trans (if_neg c2) (Eq.trans (qa_ie em3) (rfl)))
      rw [e0]
      exact ⟨rfl, hM, es⟩
/-- BuriedBySevens, fits, (I)I -/
noncomputable def ma_64_3 (N : Nat) (a1 : Int32) (σ : qa_S) : Int32 × qa_S :=
  if a1 < (-1 : Int32) then
    qa_in ((ma_9_3 (-4 : Int32) σ)) fun r2 =>
    (r2.1, r2.2)
  else
    qa_in ((ma_65_3 N (ma_60_3 σ) σ)) fun m3 =>
    if a1 = (-1 : Int32) then
      qa_in ((ma_72_3 N m3)) fun m5 =>
      qa_in ((ma_75_73_80 N m5)) fun r6 =>
      (r6, m5)
    else
      qa_in ((ma_72_3 N m3)) fun m7 =>
      qa_in ((ma_77_73_80 N m7)) fun r8 =>
      qa_in ((ma_78_3 N r8 a1 m7)) fun r9 =>
      (r9.1, r9.2)
theorem mb_64_3 {f N : Nat} (hN : f ≤ N) {M : q4_M} {r : Option Value × q4_M} {σ : qa_S} {a1 : Int32} (hM : qa_O M) (es : qa_s M = σ) (h : q4_run f 64 0 (lv_args 0 [.ref 3, .int (a1)]) [] M 0 0 = some r) : r.1 = some (.int ((ma_64_3 N a1 σ).1)) ∧ qa_O r.2 ∧ qa_s r.2 = (ma_64_3 N a1 σ).2 := by
  obtain ⟨lv, el⟩ : ∃ l, l = lv_args 0 [.ref 3, .int (a1)] := ⟨_, rfl⟩
  have g0 : q4_get lv 0 = some (.ref 3) := by rw [el]; rfl
  have g1 : q4_get lv 1 = some (.int (a1)) := by rw [el]; rfl
  rw [← el] at h
  clear el
  replace h := qa_iload (n := 1) (q := 1) (qa_e rfl h) rfl g1
  replace h := qa_push (z := (-1 : Int32)) (q := 2) (qa_e rfl h) rfl (by decide)
  by_cases c1 : a1 < (-1 : Int32)
  · replace h := qa_iff (q := 5) (qa_e rfl h) rfl (qa_F_ge c1)
    replace h := qa_aload (n := 0) (q := 6) (qa_e rfl h) rfl g0
    replace h := qa_push (z := (-4 : Int32)) (q := 8) (qa_e rfl h) rfl (by decide)
    obtain ⟨r2, er2⟩ : ∃ x, x = (ma_9_3 (-4 : Int32) σ) := ⟨_, rfl⟩
    obtain ⟨M, h, hM, es⟩ := qa_c1 (y := 9) (as := [.ref 3, .int ((-4 : Int32))]) (rest := []) (i := .invokevirtual 9) (q := 11) (qa_e rfl h) (Or.inl rfl) rfl rfl (by decide) rfl (fun r hc => mb_9_3 hM es hc)
    rw [← er2] at h es
    have er := qa_ri (qa_e rfl h)
    subst er
    have e0 : ma_64_3 N a1 σ = (r2.1, r2.2) := by exact Eq.trans (if_pos c1) (Eq.trans (qa_ie er2) (rfl))
    rw [e0]
    exact ⟨rfl, hM, es⟩
  · replace h := qa_ift (q := 12) (qa_e rfl h) rfl (qa_T_ge c1)
    replace h := qa_aload (n := 0) (q := 13) (qa_e rfl h) rfl g0
    replace h := qa_aload (n := 0) (q := 14) (qa_e rfl h) rfl g0
    obtain ⟨M, h, hM, es⟩ := qa_c1 (y := 60) (as := [.ref 3]) (rest := [.ref 3]) (i := .invokevirtual 60) (q := 17) (qa_e rfl h) (Or.inl rfl) rfl rfl (by decide) rfl (fun r hc => mb_60_3 hM es hc)
    obtain ⟨m3, em3⟩ : ∃ x, x = (ma_65_3 N (ma_60_3 σ) σ) := ⟨_, rfl⟩
    obtain ⟨M, h, hM, es⟩ := qa_c0 (y := 65) (as := [.ref 3, .int ((ma_60_3 σ))]) (rest := []) (i := .invokevirtual 65) (q := 20) (qa_e rfl h) (Or.inl rfl) rfl rfl (by decide) rfl (fun r hc => mb_65_3 hN hM es hc)
    rw [← em3] at es
    replace h := qa_iload (n := 1) (q := 21) (qa_e rfl h) rfl g1
    replace h := qa_push (z := (-1 : Int32)) (q := 22) (qa_e rfl h) rfl (by decide)
    by_cases c4 : a1 = (-1 : Int32)
    · replace h := qa_iff (q := 25) (qa_e rfl h) rfl (qa_F_ne c4)
      replace h := qa_aload (n := 0) (q := 26) (qa_e rfl h) rfl g0
      obtain ⟨m5, em5⟩ : ∃ x, x = (ma_72_3 N m3) := ⟨_, rfl⟩
      obtain ⟨M, h, hM, es⟩ := qa_c1 (y := 72) (as := [.ref 3]) (rest := []) (i := .invokevirtual 72) (q := 29) (qa_e rfl h) (Or.inl rfl) rfl rfl (by decide) rfl (fun r hc => mb_72_3 hN hM es hc)
      rw [← em5] at es
      replace h := qa_aload (n := 0) (q := 30) (qa_e rfl h) rfl g0
      replace h := qa_gr (b := 80) (j := 4) (q := 33) (qa_e rfl h) rfl hM rfl (by decide)
      obtain ⟨r6, er6⟩ : ∃ x, x = (ma_75_73_80 N m5) := ⟨_, rfl⟩
      obtain ⟨M, h, hM, es⟩ := qa_c1 (y := 75) (as := [.ref 73, .ref 80]) (rest := []) (i := .invokevirtual 75) (q := 36) (qa_e rfl h) (Or.inl rfl) rfl rfl (by decide) rfl (fun r hc => mb_75_73_80 hN hM es hc)
      rw [← er6] at h
      have er := qa_ri (qa_e rfl h)
      subst er
      have e0 : ma_64_3 N a1 σ = (r6, m5) := by exact Eq.trans (if_neg c1) (Eq.trans (qa_ie em3) (Eq.trans (if_pos c4) (Eq.trans (qa_ie em5) (Eq.trans (qa_ie er6) (rfl)))))
      rw [e0]
      exact ⟨rfl, hM, es⟩
    · replace h := qa_ift (q := 37) (qa_e rfl h) rfl (qa_T_ne c4)
      replace h := qa_aload (n := 0) (q := 38) (qa_e rfl h) rfl g0
      replace h := qa_aload (n := 0) (q := 39) (qa_e rfl h) rfl g0
      obtain ⟨m7, em7⟩ : ∃ x, x = (ma_72_3 N m3) := ⟨_, rfl⟩
      obtain ⟨M, h, hM, es⟩ := qa_c1 (y := 72) (as := [.ref 3]) (rest := [.ref 3]) (i := .invokevirtual 72) (q := 42) (qa_e rfl h) (Or.inl rfl) rfl rfl (by decide) rfl (fun r hc => mb_72_3 hN hM es hc)
      rw [← em7] at es
      replace h := qa_aload (n := 0) (q := 43) (qa_e rfl h) rfl g0
      replace h := qa_gr (b := 80) (j := 4) (q := 46) (qa_e rfl h) rfl hM rfl (by decide)
      obtain ⟨r8, er8⟩ : ∃ x, x = (ma_77_73_80 N m7) := ⟨_, rfl⟩
      obtain ⟨M, h, hM, es⟩ := qa_c1 (y := 77) (as := [.ref 73, .ref 80]) (rest := [.ref 3]) (i := .invokevirtual 77) (q := 49) (qa_e rfl h) (Or.inl rfl) rfl rfl (by decide) rfl (fun r hc => mb_77_73_80 hN hM es hc)
      rw [← er8] at h
      replace h := qa_iload (n := 1) (q := 50) (qa_e rfl h) rfl g1
      obtain ⟨r9, er9⟩ : ∃ x, x = (ma_78_3 N r8 a1 m7) := ⟨_, rfl⟩
      obtain ⟨M, h, hM, es⟩ := qa_c1 (y := 78) (as := [.ref 3, .int (r8), .int (a1)]) (rest := []) (i := .invokevirtual 78) (q := 53) (qa_e rfl h) (Or.inl rfl) rfl rfl (by decide) rfl (fun r hc => mb_78_3 hN hM es hc)
      rw [← er9] at h es
      have er := qa_ri (qa_e rfl h)
      subst er
      have e0 : ma_64_3 N a1 σ = (r9.1, r9.2) := by exact Eq.trans (if_neg c1) (Eq.trans (qa_ie em3) (Eq.trans (if_neg c4) (Eq.trans (qa_ie em7) (Eq.trans (qa_ie er8) (Eq.trans (qa_ie er9) (rfl))))))
      rw [e0]
      exact ⟨rfl, hM, es⟩
/-- BuriedBySevens, refuseLong, (I)J -/
noncomputable def ma_81_3 (a1 : Int32) (σ : qa_S) : Int64 × qa_S :=
  qa_in ((ma_9_3 a1 σ)) fun r1 =>
  (((4000000000000000000 : Int64) - (r1.1).toInt64), r1.2)
theorem mb_81_3 {f : Nat} {M : q4_M} {r : Option Value × q4_M} {σ : qa_S} {a1 : Int32} (hM : qa_O M) (es : qa_s M = σ) (h : q4_run f 81 0 (lv_args 0 [.ref 3, .int (a1)]) [] M 0 0 = some r) : r.1 = some (.long ((ma_81_3 a1 σ).1)) ∧ qa_O r.2 ∧ qa_s r.2 = (ma_81_3 a1 σ).2 := by
  obtain ⟨lv, el⟩ : ∃ l, l = lv_args 0 [.ref 3, .int (a1)] := ⟨_, rfl⟩
  have g0 : q4_get lv 0 = some (.ref 3) := by rw [el]; rfl
  have g1 : q4_get lv 1 = some (.int (a1)) := by rw [el]; rfl
  rw [← el] at h
  clear el
  replace h := qa_lpush (z := (4000000000000000000 : Int64)) (q := 3) (qa_e rfl h) rfl (by decide)
  replace h := qa_aload (n := 0) (q := 4) (qa_e rfl h) rfl g0
  replace h := qa_iload (n := 1) (q := 5) (qa_e rfl h) rfl g1
  obtain ⟨r1, er1⟩ : ∃ x, x = (ma_9_3 a1 σ) := ⟨_, rfl⟩
  obtain ⟨M, h, hM, es⟩ := qa_c1 (y := 9) (as := [.ref 3, .int (a1)]) (rest := [.long ((4000000000000000000 : Int64))]) (i := .invokevirtual 9) (q := 8) (qa_e rfl h) (Or.inl rfl) rfl rfl (by decide) rfl (fun r hc => mb_9_3 hM es hc)
  rw [← er1] at h es
  replace h := qa_i2l (q := 9) (qa_e rfl h) rfl
  replace h := qa_lsub (q := 10) (qa_e rfl h) rfl
  have er := qa_rl (qa_e rfl h)
  subst er
  have e0 : ma_81_3 a1 σ = (((4000000000000000000 : Int64) - (r1.1).toInt64), r1.2) := by exact Eq.trans (qa_ie er1) (rfl)
  rw [e0]
  exact ⟨rfl, hM, es⟩
noncomputable def mc_82_73_80_p5 (N : Nat) (l2 : Int32) (σ : qa_S) (s : Int32 × Int32) : (Int32 × Int32) ⊕ (Int32 × Int32) :=
  if s.1 < (σ 73 1) then
    qa_in ((ma_76_73_80 N s.1 σ)) fun r2 =>
    .inl ((s.1 + (1 : Int32)), (if r2 = (0 : Int32) then s.2 else (if (0 : Int32) < (ma_79_73 s.1 l2 σ) then (s.2 + (1 : Int32)) else s.2)))
  else
    .inr (s.1, s.2)
theorem md_82_73_80_p5 {N F : Nat} {r : Option Value × q4_M} {l2 : Int32} {σ : qa_S} (hN : F ≤ N) : ∀ f n, f ≤ n → f ≤ F → ∀ (s : Int32 × Int32) (lv : List (Nat × Value)) (M : q4_M), qa_O M → qa_s M = σ → q4_get lv 0 = some (.ref 73) → q4_get lv 1 = some (.ref 80) → q4_get lv 2 = some (.int (l2)) → q4_get lv 3 = some (.int (s.2)) → q4_get lv 4 = some (.int (s.1)) → q4_run f 82 5 lv [] M 0 0 = some r → ∃ lv M, q4_run F 82 43 lv [] M 0 0 = some r ∧ qa_O M ∧ qa_s M = σ ∧ q4_get lv 3 = some (.int ((qa_wh (fun s => s) (mc_82_73_80_p5 N l2 σ) n s).2)) := by
  intro f
  induction f with
  | zero => intro n _ _ s lv M hM es _ _ _ _ _ h; cases h
  | succ f ih =>
    intro n hn hF s lv M hM es g0 g1 g2 g3 g4 h
    obtain ⟨n, rfl⟩ : ∃ n1, n = n1 + 1 := ⟨n - 1, by omega⟩
    replace hn : f ≤ n := Nat.le_of_succ_le_succ hn
    have hN := Nat.le_trans (Nat.le_of_succ_le hF) hN
    replace h := qa_iload (n := 4) (q := 7) (qa_d rfl h) rfl g4
    replace h := qa_aload (n := 0) (q := 8) (qa_e rfl h) rfl g0
    replace h := qa_gi (j := 1) (q := 11) (qa_e rfl h) rfl hM es rfl (by decide)
    by_cases c1 : s.1 < (σ 73 1)
    · replace h := qa_iff (q := 14) (qa_e rfl h) rfl (qa_F_ge c1)
      replace h := qa_aload (n := 0) (q := 15) (qa_e rfl h) rfl g0
      replace h := qa_aload (n := 1) (q := 16) (qa_e rfl h) rfl g1
      replace h := qa_iload (n := 4) (q := 18) (qa_e rfl h) rfl g4
      obtain ⟨r2, er2⟩ : ∃ x, x = (ma_76_73_80 N s.1 σ) := ⟨_, rfl⟩
      obtain ⟨M, h, hM, es⟩ := qa_c1 (y := 76) (as := [.ref 73, .ref 80, .int (s.1)]) (rest := []) (i := .invokevirtual 76) (q := 21) (qa_e rfl h) (Or.inl rfl) rfl rfl (by decide) rfl (fun r hc => mb_76_73_80 hN hM es hc)
      rw [← er2] at h
      obtain ⟨lv, M, h, hM, es, g0, g1, g2, g3, g4⟩ : ∃ lv M, q4_run f 82 37 lv [] M 0 0 = some r ∧ qa_O M ∧ qa_s M = σ ∧ q4_get lv 0 = some (.ref 73) ∧ q4_get lv 1 = some (.ref 80) ∧ q4_get lv 2 = some (.int (l2)) ∧ q4_get lv 3 = some (.int ((if r2 = (0 : Int32) then s.2 else (if (0 : Int32) < (ma_79_73 s.1 l2 σ) then (s.2 + (1 : Int32)) else s.2)))) ∧ q4_get lv 4 = some (.int (s.1)) := by
        by_cases c3 : r2 = (0 : Int32)
        · replace h := qa_ict (q := 37) (qa_e rfl h) rfl (qa_T_eq c3)
          exact ⟨lv, M, h, hM, es, g0, g1, g2, (qa_gi1 c3 g3), g4⟩
        · replace h := qa_icf (q := 24) (qa_e rfl h) rfl (qa_F_eq c3)
          replace h := qa_aload (n := 0) (q := 25) (qa_e rfl h) rfl g0
          replace h := qa_iload (n := 4) (q := 27) (qa_e rfl h) rfl g4
          replace h := qa_iload (n := 2) (q := 28) (qa_e rfl h) rfl g2
          obtain ⟨M, h, hM, es⟩ := qa_c1 (y := 79) (as := [.ref 73, .int (s.1), .int (l2)]) (rest := []) (i := .invokevirtual 79) (q := 31) (qa_e rfl h) (Or.inl rfl) rfl rfl (by decide) rfl (fun r hc => mb_79_73 hM es hc)
          obtain ⟨lv, M, h, hM, es, g0, g1, g2, g3, g4⟩ : ∃ lv M, q4_run f 82 37 lv [] M 0 0 = some r ∧ qa_O M ∧ qa_s M = σ ∧ q4_get lv 0 = some (.ref 73) ∧ q4_get lv 1 = some (.ref 80) ∧ q4_get lv 2 = some (.int (l2)) ∧ q4_get lv 3 = some (.int ((if (0 : Int32) < (ma_79_73 s.1 l2 σ) then (s.2 + (1 : Int32)) else s.2))) ∧ q4_get lv 4 = some (.int (s.1)) := by
            by_cases c4 : (0 : Int32) < (ma_79_73 s.1 l2 σ)
            · replace h := qa_icf (q := 34) (qa_e rfl h) rfl (qa_F_le c4)
              obtain ⟨lv, h, g, T⟩ := qa_iinc (n := 3) (z := (1 : Int32)) (q := 37) (qa_e rfl h) rfl (by decide) g3
              replace g0 := T _ _ g0 (by decide) (Or.inr rfl)
              replace g1 := T _ _ g1 (by decide) (Or.inr rfl)
              replace g2 := T _ _ g2 (by decide) (Or.inr rfl)
              replace g4 := T _ _ g4 (by decide) (Or.inr rfl)
              replace g3 := g
              clear g T
              exact ⟨lv, M, h, hM, es, g0, g1, g2, (qa_gi1 c4 g3), g4⟩
            · replace h := qa_ict (q := 37) (qa_e rfl h) rfl (qa_T_le c4)
              exact ⟨lv, M, h, hM, es, g0, g1, g2, (qa_gi0 c4 g3), g4⟩
          exact ⟨lv, M, h, hM, es, g0, g1, g2, (qa_gi0 c3 g3), g4⟩
      obtain ⟨lv, h, g, T⟩ := qa_iinc (n := 4) (z := (1 : Int32)) (q := 40) (qa_e rfl h) rfl (by decide) g4
      replace g0 := T _ _ g0 (by decide) (Or.inr rfl)
      replace g1 := T _ _ g1 (by decide) (Or.inr rfl)
      replace g2 := T _ _ g2 (by decide) (Or.inr rfl)
      replace g3 := T _ _ g3 (by decide) (Or.inr rfl)
      replace g4 := g
      clear g T
      replace h := qa_goto (q := 5) (qa_e rfl h) rfl
      have e0 : mc_82_73_80_p5 N l2 σ s = .inl ((s.1 + (1 : Int32)), (if r2 = (0 : Int32) then s.2 else (if (0 : Int32) < (ma_79_73 s.1 l2 σ) then (s.2 + (1 : Int32)) else s.2))) := by exact Eq.trans (if_pos c1) (Eq.trans (qa_ie er2) (rfl))
      rw [qa_whl e0]
      exact ih n hn (Nat.le_of_succ_le hF) ((s.1 + (1 : Int32)), (if r2 = (0 : Int32) then s.2 else (if (0 : Int32) < (ma_79_73 s.1 l2 σ) then (s.2 + (1 : Int32)) else s.2))) _ _ hM es g0 g1 g2 g3 g4 h
    · replace h := qa_ift (q := 43) (qa_e rfl h) rfl (qa_T_ge c1)
      have e0 : mc_82_73_80_p5 N l2 σ s = .inr (s.1, s.2) := by exact Eq.trans (if_neg c1) (rfl)
      rw [qa_whr e0]
      exact ⟨_, _, q61_mono f F _ _ _ _ _ _ _ _ (Nat.le_of_succ_le hF) h, hM, es, g3⟩
/-- BuriedBySevens$Glasses, countWith, (LBuriedBySevens$Window;I)I -/
noncomputable def ma_82_73_80 (N : Nat) (a2 : Int32) (σ : qa_S) : Int32 :=
  qa_in ((qa_wh (fun s => s) (mc_82_73_80_p5 N a2 σ) N ((1 : Int32), (0 : Int32)))) fun r1 =>
  r1.2
theorem mb_82_73_80 {f N : Nat} (hN : f ≤ N) {M : q4_M} {r : Option Value × q4_M} {σ : qa_S} {a2 : Int32} (hM : qa_O M) (es : qa_s M = σ) (h : q4_run f 82 0 (lv_args 0 [.ref 73, .ref 80, .int (a2)]) [] M 0 0 = some r) : r.1 = some (.int ((ma_82_73_80 N a2 σ))) ∧ qa_O r.2 ∧ qa_s r.2 = σ := by
  obtain ⟨lv, el⟩ : ∃ l, l = lv_args 0 [.ref 73, .ref 80, .int (a2)] := ⟨_, rfl⟩
  have g0 : q4_get lv 0 = some (.ref 73) := by rw [el]; rfl
  have g1 : q4_get lv 1 = some (.ref 80) := by rw [el]; rfl
  have g2 : q4_get lv 2 = some (.int (a2)) := by rw [el]; rfl
  rw [← el] at h
  clear el
  replace h := qa_push (z := (0 : Int32)) (q := 1) (qa_e rfl h) rfl (by decide)
  obtain ⟨lv, h, g, T⟩ := qa_istore (n := 3) (q := 2) (qa_e rfl h) rfl
  replace g0 := T _ _ g0 (by decide) (Or.inr rfl)
  replace g1 := T _ _ g1 (by decide) (Or.inr rfl)
  replace g2 := T _ _ g2 (by decide) (Or.inr rfl)
  have g3 := g
  clear g T
  replace h := qa_push (z := (1 : Int32)) (q := 3) (qa_e rfl h) rfl (by decide)
  obtain ⟨lv, h, g, T⟩ := qa_istore (n := 4) (q := 5) (qa_e rfl h) rfl
  replace g0 := T _ _ g0 (by decide) (Or.inr rfl)
  replace g1 := T _ _ g1 (by decide) (Or.inr rfl)
  replace g2 := T _ _ g2 (by decide) (Or.inr rfl)
  replace g3 := T _ _ g3 (by decide) (Or.inr rfl)
  have g4 := g
  clear g T
  obtain ⟨r1, er1⟩ : ∃ x, x = (qa_wh (fun s => s) (mc_82_73_80_p5 N a2 σ) N ((1 : Int32), (0 : Int32))) := ⟨_, rfl⟩
  have L := md_82_73_80_p5 (l2 := a2) (σ := σ) (F := f) (N := N) (r := r) hN f N hN (Nat.le_refl f) ((1 : Int32), (0 : Int32)) _ _ hM es g0 g1 g2 g3 g4 h
  rw [← er1] at L
  obtain ⟨lv, M, h, hM, es, g3⟩ := L
  replace h := qa_iload (n := 3) (q := 44) (qa_e rfl h) rfl g3
  have er := qa_ri (qa_e rfl h)
  subst er
  have e0 : ma_82_73_80 N a2 σ = r1.2 := by exact Eq.trans (qa_ie er1) (rfl)
  rw [e0]
  exact ⟨rfl, hM, es⟩
/-- java/lang/Math, abs, (J)J -/
noncomputable def ma_84 (a0 : Int64) : Int64 :=
  (if (lg_cmp a0 (0 : Int64)) < (0 : Int32) then (-a0) else a0)
theorem mb_84 {f : Nat} {M : q4_M} {r : Option Value × q4_M} {σ : qa_S} {a0 : Int64} (hM : qa_O M) (es : qa_s M = σ) (h : q4_run f 84 0 (lv_args 0 [.long (a0)]) [] M 0 0 = some r) : r.1 = some (.long ((ma_84 a0))) ∧ qa_O r.2 ∧ qa_s r.2 = σ := by
  obtain ⟨lv, el⟩ : ∃ l, l = lv_args 0 [.long (a0)] := ⟨_, rfl⟩
  have g0 : q4_get lv 0 = some (.long (a0)) := by rw [el]; rfl
  rw [← el] at h
  clear el
  replace h := qa_lload (n := 0) (q := 1) (qa_e rfl h) rfl g0
  replace h := qa_lpush (z := (0 : Int64)) (q := 2) (qa_e rfl h) rfl (by decide)
  replace h := qa_lcmp (q := 3) (qa_e rfl h) rfl
  obtain ⟨lv, M, h, hM, es⟩ : ∃ lv M, q4_run f 84 12 lv [.long ((if (lg_cmp a0 (0 : Int64)) < (0 : Int32) then (-a0) else a0))] M 0 0 = some r ∧ qa_O M ∧ qa_s M = σ := by
    by_cases c1 : (lg_cmp a0 (0 : Int64)) < (0 : Int32)
    · replace h := qa_icf (q := 6) (qa_e rfl h) rfl (qa_F_ge c1)
      replace h := qa_lload (n := 0) (q := 7) (qa_e rfl h) rfl g0
      replace h := qa_lneg (q := 8) (qa_e rfl h) rfl
      replace h := qa_goto (q := 12) (qa_e rfl h) rfl
      exact ⟨lv, M, (qa_hl1 c1 h), hM, es⟩
    · replace h := qa_ict (q := 11) (qa_e rfl h) rfl (qa_T_ge c1)
      replace h := qa_lload (n := 0) (q := 12) (qa_e rfl h) rfl g0
      exact ⟨lv, M, (qa_hl0 c1 h), hM, es⟩
  have er := qa_rl (qa_e rfl h)
  subst er
  have e0 : ma_84 a0 = (if (lg_cmp a0 (0 : Int64)) < (0 : Int32) then (-a0) else a0) := by exact rfl
  rw [e0]
  exact ⟨rfl, hM, es⟩
noncomputable def mc_83_p35 (N : Nat) (l0 : Int64) (l2 : Int64) (l4 : Int32) (s : Int32 × Int64 × Int64) : (Int32 × Int64 × Int64) ⊕ (Int32 × Int64 × Int64) :=
  if s.1 < (100 : Int32) then
    if (lg_cmp s.2.2 (0 : Int64)) = (0 : Int32) then
      .inr (s.1, s.2.1, s.2.2)
    else
      .inl ((s.1 + (1 : Int32)), s.2.2, (s.2.1 - s.2.1 / s.2.2 * s.2.2))
  else
    .inr (s.1, s.2.1, s.2.2)
theorem md_83_p35 {N F : Nat} {r : Option Value × q4_M} {l0 : Int64} {l2 : Int64} {l4 : Int32} {σ : qa_S} (hN : F ≤ N) : ∀ f n, f ≤ n → f ≤ F → ∀ (s : Int32 × Int64 × Int64) (lv : List (Nat × Value)) (M : q4_M), qa_O M → qa_s M = σ → q4_get lv 0 = some (.long (l0)) → q4_get lv 2 = some (.long (l2)) → q4_get lv 4 = some (.int (l4)) → q4_get lv 5 = some (.long (s.2.1)) → q4_get lv 7 = some (.long (s.2.2)) → q4_get lv 9 = some (.int (s.1)) → q4_run f 83 35 lv [] M 0 0 = some r → ∃ lv M, q4_run F 83 70 lv [] M 0 0 = some r ∧ qa_O M ∧ qa_s M = σ ∧ q4_get lv 0 = some (.long (l0)) ∧ q4_get lv 2 = some (.long (l2)) ∧ q4_get lv 4 = some (.int (l4)) ∧ q4_get lv 5 = some (.long ((qa_wh (fun s => s) (mc_83_p35 N l0 l2 l4) n s).2.1)) := by
  intro f
  induction f with
  | zero => intro n _ _ s lv M hM es _ _ _ _ _ _ h; cases h
  | succ f ih =>
    intro n hn hF s lv M hM es g0 g2 g4 g5 g7 g9 h
    obtain ⟨n, rfl⟩ : ∃ n1, n = n1 + 1 := ⟨n - 1, by omega⟩
    replace hn : f ≤ n := Nat.le_of_succ_le_succ hn
    have hN := Nat.le_trans (Nat.le_of_succ_le hF) hN
    replace h := qa_iload (n := 9) (q := 37) (qa_d rfl h) rfl g9
    replace h := qa_push (z := (100 : Int32)) (q := 39) (qa_e rfl h) rfl (by decide)
    by_cases c1 : s.1 < (100 : Int32)
    · replace h := qa_iff (q := 42) (qa_e rfl h) rfl (qa_F_ge c1)
      replace h := qa_lload (n := 7) (q := 44) (qa_e rfl h) rfl g7
      replace h := qa_lpush (z := (0 : Int64)) (q := 45) (qa_e rfl h) rfl (by decide)
      replace h := qa_lcmp (q := 46) (qa_e rfl h) rfl
      by_cases c2 : (lg_cmp s.2.2 (0 : Int64)) = (0 : Int32)
      · replace h := qa_ict (q := 70) (qa_e rfl h) rfl (qa_T_eq c2)
        have e0 : mc_83_p35 N l0 l2 l4 s = .inr (s.1, s.2.1, s.2.2) := by exact Eq.trans (if_pos c1) (Eq.trans (if_pos c2) (rfl))
        rw [qa_whr e0]
        exact ⟨_, _, q61_mono f F _ _ _ _ _ _ _ _ (Nat.le_of_succ_le hF) h, hM, es, g0, g2, g4, g5⟩
      · replace h := qa_icf (q := 49) (qa_e rfl h) rfl (qa_F_eq c2)
        replace h := qa_lload (n := 5) (q := 51) (qa_e rfl h) rfl g5
        replace h := qa_lload (n := 7) (q := 53) (qa_e rfl h) rfl g7
        replace h := qa_lrem (q := 54) (qa_e rfl h) rfl
        obtain ⟨lv, h, g, T⟩ := qa_lstore (n := 10) (q := 56) (qa_e rfl h) rfl
        replace g0 := T _ _ g0 (by decide) (by decide) (Or.inl (by decide))
        replace g2 := T _ _ g2 (by decide) (by decide) (Or.inl (by decide))
        replace g4 := T _ _ g4 (by decide) (by decide) (Or.inr rfl)
        replace g7 := T _ _ g7 (by decide) (by decide) (Or.inl (by decide))
        replace g9 := T _ _ g9 (by decide) (by decide) (Or.inr rfl)
        have g10 := g
        clear g T
        replace h := qa_lload (n := 7) (q := 58) (qa_e rfl h) rfl g7
        obtain ⟨lv, h, g, T⟩ := qa_lstore (n := 5) (q := 60) (qa_e rfl h) rfl
        replace g0 := T _ _ g0 (by decide) (by decide) (Or.inl (by decide))
        replace g2 := T _ _ g2 (by decide) (by decide) (Or.inl (by decide))
        replace g4 := T _ _ g4 (by decide) (by decide) (Or.inr rfl)
        replace g9 := T _ _ g9 (by decide) (by decide) (Or.inr rfl)
        replace g10 := T _ _ g10 (by decide) (by decide) (Or.inl (by decide))
        have g5 := g
        clear g T
        replace h := qa_lload (n := 10) (q := 62) (qa_e rfl h) rfl g10
        obtain ⟨lv, h, g, T⟩ := qa_lstore (n := 7) (q := 64) (qa_e rfl h) rfl
        replace g0 := T _ _ g0 (by decide) (by decide) (Or.inl (by decide))
        replace g2 := T _ _ g2 (by decide) (by decide) (Or.inl (by decide))
        replace g4 := T _ _ g4 (by decide) (by decide) (Or.inr rfl)
        replace g5 := T _ _ g5 (by decide) (by decide) (Or.inl (by decide))
        replace g9 := T _ _ g9 (by decide) (by decide) (Or.inr rfl)
        have g7 := g
        clear g T
        obtain ⟨lv, h, g, T⟩ := qa_iinc (n := 9) (z := (1 : Int32)) (q := 67) (qa_e rfl h) rfl (by decide) g9
        replace g0 := T _ _ g0 (by decide) (Or.inl (by decide))
        replace g2 := T _ _ g2 (by decide) (Or.inl (by decide))
        replace g4 := T _ _ g4 (by decide) (Or.inr rfl)
        replace g5 := T _ _ g5 (by decide) (Or.inl (by decide))
        replace g7 := T _ _ g7 (by decide) (Or.inl (by decide))
        replace g9 := g
        clear g T
        replace h := qa_goto (q := 35) (qa_e rfl h) rfl
        have e0 : mc_83_p35 N l0 l2 l4 s = .inl ((s.1 + (1 : Int32)), s.2.2, (s.2.1 - s.2.1 / s.2.2 * s.2.2)) := by exact Eq.trans (if_pos c1) (Eq.trans (if_neg c2) (rfl))
        rw [qa_whl e0]
        exact ih n hn (Nat.le_of_succ_le hF) ((s.1 + (1 : Int32)), s.2.2, (s.2.1 - s.2.1 / s.2.2 * s.2.2)) _ _ hM es g0 g2 g4 g5 g7 g9 h
    · replace h := qa_ift (q := 70) (qa_e rfl h) rfl (qa_T_ge c1)
      have e0 : mc_83_p35 N l0 l2 l4 s = .inr (s.1, s.2.1, s.2.2) := by exact Eq.trans (if_neg c1) (rfl)
      rw [qa_whr e0]
      exact ⟨_, _, q61_mono f F _ _ _ _ _ _ _ _ (Nat.le_of_succ_le hF) h, hM, es, g0, g2, g4, g5⟩
/-- BuriedBySevens, fraction, (JJI)J -/
noncomputable def ma_83 (N : Nat) (a0 : Int64) (a2 : Int64) (a4 : Int32) : Int64 :=
  if (lg_cmp a0 (0 : Int64)) = (0 : Int32) then
    (if a4 = (0 : Int32) then (0 : Int64) else (1 : Int64))
  else
    if (lg_cmp a2 (0 : Int64)) = (0 : Int32) then
      (if a4 = (0 : Int32) then (0 : Int64) else (1 : Int64))
    else
      qa_in ((qa_wh (fun s => s) (mc_83_p35 N a0 a2 a4) N ((0 : Int32), (ma_84 a0), a2))) fun r5 =>
      if (lg_cmp r5.2.1 (0 : Int64)) = (0 : Int32) then
        (if a4 = (0 : Int32) then a0 else a2)
      else
        (if a4 = (0 : Int32) then (a0 / r5.2.1) else (a2 / r5.2.1))
theorem mb_83 {f N : Nat} (hN : f ≤ N) {M : q4_M} {r : Option Value × q4_M} {σ : qa_S} {a0 : Int64} {a2 : Int64} {a4 : Int32} (hM : qa_O M) (es : qa_s M = σ) (h : q4_run f 83 0 (lv_args 0 [.long (a0), .long (a2), .int (a4)]) [] M 0 0 = some r) : r.1 = some (.long ((ma_83 N a0 a2 a4))) ∧ qa_O r.2 ∧ qa_s r.2 = σ := by
  obtain ⟨lv, el⟩ : ∃ l, l = lv_args 0 [.long (a0), .long (a2), .int (a4)] := ⟨_, rfl⟩
  have g0 : q4_get lv 0 = some (.long (a0)) := by rw [el]; rfl
  have g2 : q4_get lv 2 = some (.long (a2)) := by rw [el]; rfl
  have g4 : q4_get lv 4 = some (.int (a4)) := by rw [el]; rfl
  rw [← el] at h
  clear el
  replace h := qa_lload (n := 0) (q := 1) (qa_e rfl h) rfl g0
  replace h := qa_lpush (z := (0 : Int64)) (q := 2) (qa_e rfl h) rfl (by decide)
  replace h := qa_lcmp (q := 3) (qa_e rfl h) rfl
  by_cases c1 : (lg_cmp a0 (0 : Int64)) = (0 : Int32)
  · replace h := qa_ict (q := 12) (qa_e rfl h) rfl (qa_T_eq c1)
    replace h := qa_iload (n := 4) (q := 14) (qa_e rfl h) rfl g4
    obtain ⟨lv, M, h, hM, es⟩ : ∃ lv M, q4_run f 83 22 lv [.long ((if a4 = (0 : Int32) then (0 : Int64) else (1 : Int64)))] M 0 0 = some r ∧ qa_O M ∧ qa_s M = σ := by
      by_cases c2 : a4 = (0 : Int32)
      · replace h := qa_icf (q := 17) (qa_e rfl h) rfl (qa_F_ne c2)
        replace h := qa_lpush (z := (0 : Int64)) (q := 18) (qa_e rfl h) rfl (by decide)
        replace h := qa_goto (q := 22) (qa_e rfl h) rfl
        exact ⟨lv, M, (qa_hl1 c2 h), hM, es⟩
      · replace h := qa_ict (q := 21) (qa_e rfl h) rfl (qa_T_ne c2)
        replace h := qa_lpush (z := (1 : Int64)) (q := 22) (qa_e rfl h) rfl (by decide)
        exact ⟨lv, M, (qa_hl0 c2 h), hM, es⟩
    have er := qa_rl (qa_e rfl h)
    subst er
    have e0 : ma_83 N a0 a2 a4 = (if a4 = (0 : Int32) then (0 : Int64) else (1 : Int64)) := by exact Eq.trans (if_pos c1) (rfl)
    rw [e0]
    exact ⟨rfl, hM, es⟩
  · replace h := qa_icf (q := 6) (qa_e rfl h) rfl (qa_F_eq c1)
    replace h := qa_lload (n := 2) (q := 7) (qa_e rfl h) rfl g2
    replace h := qa_lpush (z := (0 : Int64)) (q := 8) (qa_e rfl h) rfl (by decide)
    replace h := qa_lcmp (q := 9) (qa_e rfl h) rfl
    by_cases c3 : (lg_cmp a2 (0 : Int64)) = (0 : Int32)
    · replace h := qa_icf (q := 12) (qa_e rfl h) rfl (qa_F_ne c3)
      replace h := qa_iload (n := 4) (q := 14) (qa_e rfl h) rfl g4
      obtain ⟨lv, M, h, hM, es⟩ : ∃ lv M, q4_run f 83 22 lv [.long ((if a4 = (0 : Int32) then (0 : Int64) else (1 : Int64)))] M 0 0 = some r ∧ qa_O M ∧ qa_s M = σ := by
        by_cases c4 : a4 = (0 : Int32)
        · replace h := qa_icf (q := 17) (qa_e rfl h) rfl (qa_F_ne c4)
          replace h := qa_lpush (z := (0 : Int64)) (q := 18) (qa_e rfl h) rfl (by decide)
          replace h := qa_goto (q := 22) (qa_e rfl h) rfl
          exact ⟨lv, M, (qa_hl1 c4 h), hM, es⟩
        · replace h := qa_ict (q := 21) (qa_e rfl h) rfl (qa_T_ne c4)
          replace h := qa_lpush (z := (1 : Int64)) (q := 22) (qa_e rfl h) rfl (by decide)
          exact ⟨lv, M, (qa_hl0 c4 h), hM, es⟩
      have er := qa_rl (qa_e rfl h)
      subst er
      have e0 : ma_83 N a0 a2 a4 = (if a4 = (0 : Int32) then (0 : Int64) else (1 : Int64)) := by exact Eq.trans (if_neg c1) (Eq.trans (if_pos c3) (rfl))
      rw [e0]
      exact ⟨rfl, hM, es⟩
    · replace h := qa_ict (q := 23) (qa_e rfl h) rfl (qa_T_ne c3)
      replace h := qa_lload (n := 0) (q := 24) (qa_e rfl h) rfl g0
      obtain ⟨M, h, hM, es⟩ := qa_c1 (y := 84) (as := [.long (a0)]) (rest := []) (i := .invokestatic 84) (q := 27) (qa_e rfl h) (Or.inr rfl) rfl rfl (by decide) rfl (fun r hc => mb_84 hM es hc)
      obtain ⟨lv, h, g, T⟩ := qa_lstore (n := 5) (q := 29) (qa_e rfl h) rfl
      replace g0 := T _ _ g0 (by decide) (by decide) (Or.inl (by decide))
      replace g2 := T _ _ g2 (by decide) (by decide) (Or.inl (by decide))
      replace g4 := T _ _ g4 (by decide) (by decide) (Or.inr rfl)
      have g5 := g
      clear g T
      replace h := qa_lload (n := 2) (q := 30) (qa_e rfl h) rfl g2
      obtain ⟨lv, h, g, T⟩ := qa_lstore (n := 7) (q := 32) (qa_e rfl h) rfl
      replace g0 := T _ _ g0 (by decide) (by decide) (Or.inl (by decide))
      replace g2 := T _ _ g2 (by decide) (by decide) (Or.inl (by decide))
      replace g4 := T _ _ g4 (by decide) (by decide) (Or.inr rfl)
      replace g5 := T _ _ g5 (by decide) (by decide) (Or.inl (by decide))
      have g7 := g
      clear g T
      replace h := qa_push (z := (0 : Int32)) (q := 33) (qa_e rfl h) rfl (by decide)
      obtain ⟨lv, h, g, T⟩ := qa_istore (n := 9) (q := 35) (qa_e rfl h) rfl
      replace g0 := T _ _ g0 (by decide) (Or.inl (by decide))
      replace g2 := T _ _ g2 (by decide) (Or.inl (by decide))
      replace g4 := T _ _ g4 (by decide) (Or.inr rfl)
      replace g5 := T _ _ g5 (by decide) (Or.inl (by decide))
      replace g7 := T _ _ g7 (by decide) (Or.inl (by decide))
      have g9 := g
      clear g T
      obtain ⟨r5, er5⟩ : ∃ x, x = (qa_wh (fun s => s) (mc_83_p35 N a0 a2 a4) N ((0 : Int32), (ma_84 a0), a2)) := ⟨_, rfl⟩
      have L := md_83_p35 (l0 := a0) (l2 := a2) (l4 := a4) (σ := σ) (F := f) (N := N) (r := r) hN f N hN (Nat.le_refl f) ((0 : Int32), (ma_84 a0), a2) _ _ hM es g0 g2 g4 g5 g7 g9 h
      rw [← er5] at L
      obtain ⟨lv, M, h, hM, es, g0, g2, g4, g5⟩ := L
      replace h := qa_lload (n := 5) (q := 72) (qa_e rfl h) rfl g5
      replace h := qa_lpush (z := (0 : Int64)) (q := 73) (qa_e rfl h) rfl (by decide)
      replace h := qa_lcmp (q := 74) (qa_e rfl h) rfl
      by_cases c6 : (lg_cmp r5.2.1 (0 : Int64)) = (0 : Int32)
      · replace h := qa_icf (q := 77) (qa_e rfl h) rfl (qa_F_ne c6)
        replace h := qa_iload (n := 4) (q := 79) (qa_e rfl h) rfl g4
        obtain ⟨lv, M, h, hM, es⟩ : ∃ lv M, q4_run f 83 87 lv [.long ((if a4 = (0 : Int32) then a0 else a2))] M 0 0 = some r ∧ qa_O M ∧ qa_s M = σ := by
          by_cases c7 : a4 = (0 : Int32)
          · replace h := qa_icf (q := 82) (qa_e rfl h) rfl (qa_F_ne c7)
            replace h := qa_lload (n := 0) (q := 83) (qa_e rfl h) rfl g0
            replace h := qa_goto (q := 87) (qa_e rfl h) rfl
            exact ⟨lv, M, (qa_hl1 c7 h), hM, es⟩
          · replace h := qa_ict (q := 86) (qa_e rfl h) rfl (qa_T_ne c7)
            replace h := qa_lload (n := 2) (q := 87) (qa_e rfl h) rfl g2
            exact ⟨lv, M, (qa_hl0 c7 h), hM, es⟩
        have er := qa_rl (qa_e rfl h)
        subst er
        have e0 : ma_83 N a0 a2 a4 = (if a4 = (0 : Int32) then a0 else a2) := by exact Eq.trans (if_neg c1) (Eq.trans (if_neg c3) (Eq.trans (qa_ie er5) (Eq.trans (if_pos c6) (rfl))))
        rw [e0]
        exact ⟨rfl, hM, es⟩
      · replace h := qa_ict (q := 88) (qa_e rfl h) rfl (qa_T_ne c6)
        replace h := qa_iload (n := 4) (q := 90) (qa_e rfl h) rfl g4
        obtain ⟨lv, M, h, hM, es⟩ : ∃ lv M, q4_run f 83 104 lv [.long ((if a4 = (0 : Int32) then (a0 / r5.2.1) else (a2 / r5.2.1)))] M 0 0 = some r ∧ qa_O M ∧ qa_s M = σ := by
          by_cases c8 : a4 = (0 : Int32)
          · replace h := qa_icf (q := 93) (qa_e rfl h) rfl (qa_F_ne c8)
            replace h := qa_lload (n := 0) (q := 94) (qa_e rfl h) rfl g0
            replace h := qa_lload (n := 5) (q := 96) (qa_e rfl h) rfl g5
            replace h := qa_ldiv (q := 97) (qa_e rfl h) rfl
            replace h := qa_goto (q := 104) (qa_e rfl h) rfl
            exact ⟨lv, M, (qa_hl1 c8 h), hM, es⟩
          · replace h := qa_ict (q := 100) (qa_e rfl h) rfl (qa_T_ne c8)
            replace h := qa_lload (n := 2) (q := 101) (qa_e rfl h) rfl g2
            replace h := qa_lload (n := 5) (q := 103) (qa_e rfl h) rfl g5
            replace h := qa_ldiv (q := 104) (qa_e rfl h) rfl
            exact ⟨lv, M, (qa_hl0 c8 h), hM, es⟩
        have er := qa_rl (qa_e rfl h)
        subst er
        have e0 : ma_83 N a0 a2 a4 = (if a4 = (0 : Int32) then (a0 / r5.2.1) else (a2 / r5.2.1)) := by exact Eq.trans (if_neg c1) (Eq.trans (if_neg c3) (Eq.trans (qa_ie er5) (Eq.trans (if_neg c6) (rfl))))
        rw [e0]
        exact ⟨rfl, hM, es⟩
/-- BuriedBySevens, in, (II)J -/
noncomputable def ma_80_3 (N : Nat) (a1 : Int32) (a2 : Int32) (σ : qa_S) : Int64 × qa_S :=
  if (ma_22_4 a1 σ) = (0 : Int32) then
    qa_in ((ma_81_3 (-1 : Int32) σ)) fun r2 =>
    (r2.1, r2.2)
  else
    if (ma_57 a2) = (0 : Int32) then
      qa_in ((ma_81_3 (-2 : Int32) σ)) fun r4 =>
      (r4.1, r4.2)
    else
      qa_in ((ma_65_3 N (ma_60_3 σ) σ)) fun m5 =>
      qa_in ((ma_72_3 N m5)) fun m6 =>
      qa_in ((ma_82_73_80 N a1 m6)) fun r7 =>
      qa_in ((ma_72_3 N m6)) fun m8 =>
      qa_in ((ma_75_73_80 N m8)) fun r9 =>
      qa_in ((ma_83 N (r7).toInt64 (r9).toInt64 a2)) fun r10 =>
      (r10, m8)
theorem mb_80_3 {f N : Nat} (hN : f ≤ N) {M : q4_M} {r : Option Value × q4_M} {σ : qa_S} {a1 : Int32} {a2 : Int32} (hM : qa_O M) (es : qa_s M = σ) (h : q4_run f 80 0 (lv_args 0 [.ref 3, .int (a1), .int (a2)]) [] M 0 0 = some r) : r.1 = some (.long ((ma_80_3 N a1 a2 σ).1)) ∧ qa_O r.2 ∧ qa_s r.2 = (ma_80_3 N a1 a2 σ).2 := by
  obtain ⟨lv, el⟩ : ∃ l, l = lv_args 0 [.ref 3, .int (a1), .int (a2)] := ⟨_, rfl⟩
  have g0 : q4_get lv 0 = some (.ref 3) := by rw [el]; rfl
  have g1 : q4_get lv 1 = some (.int (a1)) := by rw [el]; rfl
  have g2 : q4_get lv 2 = some (.int (a2)) := by rw [el]; rfl
  rw [← el] at h
  clear el
  replace h := qa_aload (n := 0) (q := 1) (qa_e rfl h) rfl g0
  replace h := qa_gr (b := 4) (j := 0) (q := 4) (qa_e rfl h) rfl hM rfl (by decide)
  replace h := qa_iload (n := 1) (q := 5) (qa_e rfl h) rfl g1
  obtain ⟨M, h, hM, es⟩ := qa_c1 (y := 22) (as := [.ref 4, .int (a1)]) (rest := []) (i := .invokevirtual 22) (q := 8) (qa_e rfl h) (Or.inl rfl) rfl rfl (by decide) rfl (fun r hc => mb_22_4 hM es hc)
  by_cases c1 : (ma_22_4 a1 σ) = (0 : Int32)
  · replace h := qa_icf (q := 11) (qa_e rfl h) rfl (qa_F_ne c1)
    replace h := qa_aload (n := 0) (q := 12) (qa_e rfl h) rfl g0
    replace h := qa_push (z := (-1 : Int32)) (q := 13) (qa_e rfl h) rfl (by decide)
    obtain ⟨r2, er2⟩ : ∃ x, x = (ma_81_3 (-1 : Int32) σ) := ⟨_, rfl⟩
    obtain ⟨M, h, hM, es⟩ := qa_c1 (y := 81) (as := [.ref 3, .int ((-1 : Int32))]) (rest := []) (i := .invokevirtual 81) (q := 16) (qa_e rfl h) (Or.inl rfl) rfl rfl (by decide) rfl (fun r hc => mb_81_3 hM es hc)
    rw [← er2] at h es
    have er := qa_rl (qa_e rfl h)
    subst er
    have e0 : ma_80_3 N a1 a2 σ = (r2.1, r2.2) := by exact Eq.trans (if_pos c1) (Eq.trans (qa_ie er2) (rfl))
    rw [e0]
    exact ⟨rfl, hM, es⟩
  · replace h := qa_ict (q := 17) (qa_e rfl h) rfl (qa_T_ne c1)
    replace h := qa_iload (n := 2) (q := 18) (qa_e rfl h) rfl g2
    obtain ⟨M, h, hM, es⟩ := qa_c1 (y := 57) (as := [.int (a2)]) (rest := []) (i := .invokestatic 57) (q := 21) (qa_e rfl h) (Or.inr rfl) rfl rfl (by decide) rfl (fun r hc => mb_57 hM es hc)
    by_cases c3 : (ma_57 a2) = (0 : Int32)
    · replace h := qa_icf (q := 24) (qa_e rfl h) rfl (qa_F_ne c3)
      replace h := qa_aload (n := 0) (q := 25) (qa_e rfl h) rfl g0
      replace h := qa_push (z := (-2 : Int32)) (q := 27) (qa_e rfl h) rfl (by decide)
      obtain ⟨r4, er4⟩ : ∃ x, x = (ma_81_3 (-2 : Int32) σ) := ⟨_, rfl⟩
      obtain ⟨M, h, hM, es⟩ := qa_c1 (y := 81) (as := [.ref 3, .int ((-2 : Int32))]) (rest := []) (i := .invokevirtual 81) (q := 30) (qa_e rfl h) (Or.inl rfl) rfl rfl (by decide) rfl (fun r hc => mb_81_3 hM es hc)
      rw [← er4] at h es
      have er := qa_rl (qa_e rfl h)
      subst er
      have e0 : ma_80_3 N a1 a2 σ = (r4.1, r4.2) := by exact Eq.trans (if_neg c1) (Eq.trans (if_pos c3) (Eq.trans (qa_ie er4) (rfl)))
      rw [e0]
      exact ⟨rfl, hM, es⟩
    · replace h := qa_ict (q := 31) (qa_e rfl h) rfl (qa_T_ne c3)
      replace h := qa_aload (n := 0) (q := 32) (qa_e rfl h) rfl g0
      replace h := qa_aload (n := 0) (q := 33) (qa_e rfl h) rfl g0
      obtain ⟨M, h, hM, es⟩ := qa_c1 (y := 60) (as := [.ref 3]) (rest := [.ref 3]) (i := .invokevirtual 60) (q := 36) (qa_e rfl h) (Or.inl rfl) rfl rfl (by decide) rfl (fun r hc => mb_60_3 hM es hc)
      obtain ⟨m5, em5⟩ : ∃ x, x = (ma_65_3 N (ma_60_3 σ) σ) := ⟨_, rfl⟩
      obtain ⟨M, h, hM, es⟩ := qa_c0 (y := 65) (as := [.ref 3, .int ((ma_60_3 σ))]) (rest := []) (i := .invokevirtual 65) (q := 39) (qa_e rfl h) (Or.inl rfl) rfl rfl (by decide) rfl (fun r hc => mb_65_3 hN hM es hc)
      rw [← em5] at es
      replace h := qa_aload (n := 0) (q := 40) (qa_e rfl h) rfl g0
      obtain ⟨m6, em6⟩ : ∃ x, x = (ma_72_3 N m5) := ⟨_, rfl⟩
      obtain ⟨M, h, hM, es⟩ := qa_c1 (y := 72) (as := [.ref 3]) (rest := []) (i := .invokevirtual 72) (q := 43) (qa_e rfl h) (Or.inl rfl) rfl rfl (by decide) rfl (fun r hc => mb_72_3 hN hM es hc)
      rw [← em6] at es
      replace h := qa_aload (n := 0) (q := 44) (qa_e rfl h) rfl g0
      replace h := qa_gr (b := 80) (j := 4) (q := 47) (qa_e rfl h) rfl hM rfl (by decide)
      replace h := qa_iload (n := 1) (q := 48) (qa_e rfl h) rfl g1
      obtain ⟨r7, er7⟩ : ∃ x, x = (ma_82_73_80 N a1 m6) := ⟨_, rfl⟩
      obtain ⟨M, h, hM, es⟩ := qa_c1 (y := 82) (as := [.ref 73, .ref 80, .int (a1)]) (rest := []) (i := .invokevirtual 82) (q := 51) (qa_e rfl h) (Or.inl rfl) rfl rfl (by decide) rfl (fun r hc => mb_82_73_80 hN hM es hc)
      rw [← er7] at h
      replace h := qa_i2l (q := 52) (qa_e rfl h) rfl
      replace h := qa_aload (n := 0) (q := 53) (qa_e rfl h) rfl g0
      obtain ⟨m8, em8⟩ : ∃ x, x = (ma_72_3 N m6) := ⟨_, rfl⟩
      obtain ⟨M, h, hM, es⟩ := qa_c1 (y := 72) (as := [.ref 3]) (rest := [.long ((r7).toInt64)]) (i := .invokevirtual 72) (q := 56) (qa_e rfl h) (Or.inl rfl) rfl rfl (by decide) rfl (fun r hc => mb_72_3 hN hM es hc)
      rw [← em8] at es
      replace h := qa_aload (n := 0) (q := 57) (qa_e rfl h) rfl g0
      replace h := qa_gr (b := 80) (j := 4) (q := 60) (qa_e rfl h) rfl hM rfl (by decide)
      obtain ⟨r9, er9⟩ : ∃ x, x = (ma_75_73_80 N m8) := ⟨_, rfl⟩
      obtain ⟨M, h, hM, es⟩ := qa_c1 (y := 75) (as := [.ref 73, .ref 80]) (rest := [.long ((r7).toInt64)]) (i := .invokevirtual 75) (q := 63) (qa_e rfl h) (Or.inl rfl) rfl rfl (by decide) rfl (fun r hc => mb_75_73_80 hN hM es hc)
      rw [← er9] at h
      replace h := qa_i2l (q := 64) (qa_e rfl h) rfl
      replace h := qa_iload (n := 2) (q := 65) (qa_e rfl h) rfl g2
      obtain ⟨r10, er10⟩ : ∃ x, x = (ma_83 N (r7).toInt64 (r9).toInt64 a2) := ⟨_, rfl⟩
      obtain ⟨M, h, hM, es⟩ := qa_c1 (y := 83) (as := [.long ((r7).toInt64), .long ((r9).toInt64), .int (a2)]) (rest := []) (i := .invokestatic 83) (q := 68) (qa_e rfl h) (Or.inr rfl) rfl rfl (by decide) rfl (fun r hc => mb_83 hN hM es hc)
      rw [← er10] at h
      have er := qa_rl (qa_e rfl h)
      subst er
      have e0 : ma_80_3 N a1 a2 σ = (r10, m8) := by exact Eq.trans (if_neg c1) (Eq.trans (if_neg c3) (Eq.trans (qa_ie em5) (Eq.trans (qa_ie em6) (Eq.trans (qa_ie er7) (Eq.trans (qa_ie em8) (Eq.trans (qa_ie er9) (Eq.trans (qa_ie er10) (rfl))))))))
      rw [e0]
      exact ⟨rfl, hM, es⟩
noncomputable def mc_85_3_p50 (N : Nat) (l2 : Int32) (l3 : Int32) (s : Int32 × Int32 × qa_S) : (Int32 × Int32 × qa_S) ⊕ (Int32 × Int32 × qa_S) :=
  if s.1 < (s.2.2 4 0) then
    if (0 : Int32) < l2 then
      qa_in ((ma_72_3 N s.2.2)) fun m3 =>
      qa_in ((ma_82_73_80 N s.1 m3)) fun r4 =>
      .inl ((s.1 + (1 : Int32)), (if r4 = l3 then (s.2.1 ||| ((1 : Int32) <<< (s.1 &&& 31))) else s.2.1), m3)
    else
      .inr (s.1, s.2.1, s.2.2)
  else
    .inr (s.1, s.2.1, s.2.2)
theorem md_85_3_p50 {N F : Nat} {r : Option Value × q4_M} {l2 : Int32} {l3 : Int32} (hN : F ≤ N) : ∀ f n, f ≤ n → f ≤ F → ∀ (s : Int32 × Int32 × qa_S) (lv : List (Nat × Value)) (M : q4_M), qa_O M → qa_s M = s.2.2 → q4_get lv 0 = some (.ref 3) → q4_get lv 2 = some (.int (l2)) → q4_get lv 3 = some (.int (l3)) → q4_get lv 4 = some (.int (s.2.1)) → q4_get lv 5 = some (.int (s.1)) → q4_run f 85 50 lv [] M 0 0 = some r → ∃ lv M, q4_run F 85 98 lv [] M 0 0 = some r ∧ qa_O M ∧ qa_s M = (qa_wh (fun s => s) (mc_85_3_p50 N l2 l3) n s).2.2 ∧ q4_get lv 4 = some (.int ((qa_wh (fun s => s) (mc_85_3_p50 N l2 l3) n s).2.1)) := by
  intro f
  induction f with
  | zero => intro n _ _ s lv M hM es _ _ _ _ _ h; cases h
  | succ f ih =>
    intro n hn hF s lv M hM es g0 g2 g3 g4 g5 h
    obtain ⟨n, rfl⟩ : ∃ n1, n = n1 + 1 := ⟨n - 1, by omega⟩
    replace hn : f ≤ n := Nat.le_of_succ_le_succ hn
    have hN := Nat.le_trans (Nat.le_of_succ_le hF) hN
    replace h := qa_iload (n := 5) (q := 52) (qa_d rfl h) rfl g5
    replace h := qa_aload (n := 0) (q := 53) (qa_e rfl h) rfl g0
    replace h := qa_gr (b := 4) (j := 0) (q := 56) (qa_e rfl h) rfl hM rfl (by decide)
    replace h := qa_gi (j := 0) (q := 59) (qa_e rfl h) rfl hM es rfl (by decide)
    by_cases c1 : s.1 < (s.2.2 4 0)
    · replace h := qa_iff (q := 62) (qa_e rfl h) rfl (qa_F_ge c1)
      replace h := qa_iload (n := 2) (q := 63) (qa_e rfl h) rfl g2
      by_cases c2 : (0 : Int32) < l2
      · replace h := qa_icf (q := 66) (qa_e rfl h) rfl (qa_F_le c2)
        replace h := qa_aload (n := 0) (q := 67) (qa_e rfl h) rfl g0
        obtain ⟨m3, em3⟩ : ∃ x, x = (ma_72_3 N s.2.2) := ⟨_, rfl⟩
        obtain ⟨M, h, hM, es⟩ := qa_c1 (y := 72) (as := [.ref 3]) (rest := []) (i := .invokevirtual 72) (q := 70) (qa_e rfl h) (Or.inl rfl) rfl rfl (by decide) rfl (fun r hc => mb_72_3 hN hM es hc)
        rw [← em3] at es
        replace h := qa_aload (n := 0) (q := 71) (qa_e rfl h) rfl g0
        replace h := qa_gr (b := 80) (j := 4) (q := 74) (qa_e rfl h) rfl hM rfl (by decide)
        replace h := qa_iload (n := 5) (q := 76) (qa_e rfl h) rfl g5
        obtain ⟨r4, er4⟩ : ∃ x, x = (ma_82_73_80 N s.1 m3) := ⟨_, rfl⟩
        obtain ⟨M, h, hM, es⟩ := qa_c1 (y := 82) (as := [.ref 73, .ref 80, .int (s.1)]) (rest := []) (i := .invokevirtual 82) (q := 79) (qa_e rfl h) (Or.inl rfl) rfl rfl (by decide) rfl (fun r hc => mb_82_73_80 hN hM es hc)
        rw [← er4] at h
        replace h := qa_iload (n := 3) (q := 80) (qa_e rfl h) rfl g3
        obtain ⟨lv, M, h, hM, es, g0, g2, g3, g4, g5⟩ : ∃ lv M, q4_run f 85 92 lv [] M 0 0 = some r ∧ qa_O M ∧ qa_s M = m3 ∧ q4_get lv 0 = some (.ref 3) ∧ q4_get lv 2 = some (.int (l2)) ∧ q4_get lv 3 = some (.int (l3)) ∧ q4_get lv 4 = some (.int ((if r4 = l3 then (s.2.1 ||| ((1 : Int32) <<< (s.1 &&& 31))) else s.2.1))) ∧ q4_get lv 5 = some (.int (s.1)) := by
          by_cases c5 : r4 = l3
          · replace h := qa_iff (q := 83) (qa_e rfl h) rfl (qa_F_ne c5)
            replace h := qa_iload (n := 4) (q := 85) (qa_e rfl h) rfl g4
            replace h := qa_push (z := (1 : Int32)) (q := 86) (qa_e rfl h) rfl (by decide)
            replace h := qa_iload (n := 5) (q := 88) (qa_e rfl h) rfl g5
            replace h := qa_ishl (q := 89) (qa_e rfl h) rfl
            replace h := qa_ior (q := 90) (qa_e rfl h) rfl
            obtain ⟨lv, h, g, T⟩ := qa_istore (n := 4) (q := 92) (qa_e rfl h) rfl
            replace g0 := T _ _ g0 (by decide) (Or.inr rfl)
            replace g2 := T _ _ g2 (by decide) (Or.inr rfl)
            replace g3 := T _ _ g3 (by decide) (Or.inr rfl)
            replace g5 := T _ _ g5 (by decide) (Or.inr rfl)
            have g4 := g
            clear g T
            exact ⟨lv, M, h, hM, es, g0, g2, g3, (qa_gi1 c5 g4), g5⟩
          · replace h := qa_ift (q := 92) (qa_e rfl h) rfl (qa_T_ne c5)
            exact ⟨lv, M, h, hM, es, g0, g2, g3, (qa_gi0 c5 g4), g5⟩
        obtain ⟨lv, h, g, T⟩ := qa_iinc (n := 5) (z := (1 : Int32)) (q := 95) (qa_e rfl h) rfl (by decide) g5
        replace g0 := T _ _ g0 (by decide) (Or.inr rfl)
        replace g2 := T _ _ g2 (by decide) (Or.inr rfl)
        replace g3 := T _ _ g3 (by decide) (Or.inr rfl)
        replace g4 := T _ _ g4 (by decide) (Or.inr rfl)
        replace g5 := g
        clear g T
        replace h := qa_goto (q := 50) (qa_e rfl h) rfl
        have e0 : mc_85_3_p50 N l2 l3 s = .inl ((s.1 + (1 : Int32)), (if r4 = l3 then (s.2.1 ||| ((1 : Int32) <<< (s.1 &&& 31))) else s.2.1), m3) := by exact Eq.trans (if_pos c1) (Eq.trans (if_pos c2) (Eq.trans (qa_ie em3) (Eq.trans (qa_ie er4) (rfl))))
        rw [qa_whl e0]
        exact ih n hn (Nat.le_of_succ_le hF) ((s.1 + (1 : Int32)), (if r4 = l3 then (s.2.1 ||| ((1 : Int32) <<< (s.1 &&& 31))) else s.2.1), m3) _ _ hM es g0 g2 g3 g4 g5 h
      · replace h := qa_ict (q := 98) (qa_e rfl h) rfl (qa_T_le c2)
        have e0 : mc_85_3_p50 N l2 l3 s = .inr (s.1, s.2.1, s.2.2) := by exact Eq.trans (if_pos c1) (Eq.trans (if_neg c2) (rfl))
        rw [qa_whr e0]
        exact ⟨_, _, q61_mono f F _ _ _ _ _ _ _ _ (Nat.le_of_succ_le hF) h, hM, es, g4⟩
    · replace h := qa_ift (q := 98) (qa_e rfl h) rfl (qa_T_ge c1)
      have e0 : mc_85_3_p50 N l2 l3 s = .inr (s.1, s.2.1, s.2.2) := by exact Eq.trans (if_neg c1) (rfl)
      rw [qa_whr e0]
      exact ⟨_, _, q61_mono f F _ _ _ _ _ _ _ _ (Nat.le_of_succ_le hF) h, hM, es, g4⟩
/-- BuriedBySevens, sure, (I)I -/
noncomputable def ma_85_3 (N : Nat) (a1 : Int32) (σ : qa_S) : Int32 × qa_S :=
  if (ma_57 a1) = (0 : Int32) then
    qa_in ((ma_9_3 (-2 : Int32) σ)) fun r2 =>
    (r2.1, r2.2)
  else
    qa_in ((ma_65_3 N (ma_60_3 σ) σ)) fun m3 =>
    qa_in ((ma_72_3 N m3)) fun m4 =>
    qa_in ((ma_75_73_80 N m4)) fun r5 =>
    qa_in ((qa_wh (fun s => s) (mc_85_3_p50 N r5 (if a1 = (0 : Int32) then r5 else (0 : Int32))) N ((0 : Int32), (0 : Int32), m4))) fun r7 =>
    (r7.2.1, r7.2.2)
theorem mb_85_3 {f N : Nat} (hN : f ≤ N) {M : q4_M} {r : Option Value × q4_M} {σ : qa_S} {a1 : Int32} (hM : qa_O M) (es : qa_s M = σ) (h : q4_run f 85 0 (lv_args 0 [.ref 3, .int (a1)]) [] M 0 0 = some r) : r.1 = some (.int ((ma_85_3 N a1 σ).1)) ∧ qa_O r.2 ∧ qa_s r.2 = (ma_85_3 N a1 σ).2 := by
  obtain ⟨lv, el⟩ : ∃ l, l = lv_args 0 [.ref 3, .int (a1)] := ⟨_, rfl⟩
  have g0 : q4_get lv 0 = some (.ref 3) := by rw [el]; rfl
  have g1 : q4_get lv 1 = some (.int (a1)) := by rw [el]; rfl
  rw [← el] at h
  clear el
  replace h := qa_iload (n := 1) (q := 1) (qa_e rfl h) rfl g1
  obtain ⟨M, h, hM, es⟩ := qa_c1 (y := 57) (as := [.int (a1)]) (rest := []) (i := .invokestatic 57) (q := 4) (qa_e rfl h) (Or.inr rfl) rfl rfl (by decide) rfl (fun r hc => mb_57 hM es hc)
  by_cases c1 : (ma_57 a1) = (0 : Int32)
  · replace h := qa_icf (q := 7) (qa_e rfl h) rfl (qa_F_ne c1)
    replace h := qa_aload (n := 0) (q := 8) (qa_e rfl h) rfl g0
    replace h := qa_push (z := (-2 : Int32)) (q := 10) (qa_e rfl h) rfl (by decide)
    obtain ⟨r2, er2⟩ : ∃ x, x = (ma_9_3 (-2 : Int32) σ) := ⟨_, rfl⟩
    obtain ⟨M, h, hM, es⟩ := qa_c1 (y := 9) (as := [.ref 3, .int ((-2 : Int32))]) (rest := []) (i := .invokevirtual 9) (q := 13) (qa_e rfl h) (Or.inl rfl) rfl rfl (by decide) rfl (fun r hc => mb_9_3 hM es hc)
    rw [← er2] at h es
    have er := qa_ri (qa_e rfl h)
    subst er
    have e0 : ma_85_3 N a1 σ = (r2.1, r2.2) := by exact Eq.trans (if_pos c1) (Eq.trans (qa_ie er2) (rfl))
    rw [e0]
    exact ⟨rfl, hM, es⟩
  · replace h := qa_ict (q := 14) (qa_e rfl h) rfl (qa_T_ne c1)
    replace h := qa_aload (n := 0) (q := 15) (qa_e rfl h) rfl g0
    replace h := qa_aload (n := 0) (q := 16) (qa_e rfl h) rfl g0
    obtain ⟨M, h, hM, es⟩ := qa_c1 (y := 60) (as := [.ref 3]) (rest := [.ref 3]) (i := .invokevirtual 60) (q := 19) (qa_e rfl h) (Or.inl rfl) rfl rfl (by decide) rfl (fun r hc => mb_60_3 hM es hc)
    obtain ⟨m3, em3⟩ : ∃ x, x = (ma_65_3 N (ma_60_3 σ) σ) := ⟨_, rfl⟩
    obtain ⟨M, h, hM, es⟩ := qa_c0 (y := 65) (as := [.ref 3, .int ((ma_60_3 σ))]) (rest := []) (i := .invokevirtual 65) (q := 22) (qa_e rfl h) (Or.inl rfl) rfl rfl (by decide) rfl (fun r hc => mb_65_3 hN hM es hc)
    rw [← em3] at es
    replace h := qa_aload (n := 0) (q := 23) (qa_e rfl h) rfl g0
    obtain ⟨m4, em4⟩ : ∃ x, x = (ma_72_3 N m3) := ⟨_, rfl⟩
    obtain ⟨M, h, hM, es⟩ := qa_c1 (y := 72) (as := [.ref 3]) (rest := []) (i := .invokevirtual 72) (q := 26) (qa_e rfl h) (Or.inl rfl) rfl rfl (by decide) rfl (fun r hc => mb_72_3 hN hM es hc)
    rw [← em4] at es
    replace h := qa_aload (n := 0) (q := 27) (qa_e rfl h) rfl g0
    replace h := qa_gr (b := 80) (j := 4) (q := 30) (qa_e rfl h) rfl hM rfl (by decide)
    obtain ⟨r5, er5⟩ : ∃ x, x = (ma_75_73_80 N m4) := ⟨_, rfl⟩
    obtain ⟨M, h, hM, es⟩ := qa_c1 (y := 75) (as := [.ref 73, .ref 80]) (rest := []) (i := .invokevirtual 75) (q := 33) (qa_e rfl h) (Or.inl rfl) rfl rfl (by decide) rfl (fun r hc => mb_75_73_80 hN hM es hc)
    rw [← er5] at h
    obtain ⟨lv, h, g, T⟩ := qa_istore (n := 2) (q := 34) (qa_e rfl h) rfl
    replace g0 := T _ _ g0 (by decide) (Or.inr rfl)
    replace g1 := T _ _ g1 (by decide) (Or.inr rfl)
    have g2 := g
    clear g T
    replace h := qa_iload (n := 1) (q := 35) (qa_e rfl h) rfl g1
    obtain ⟨lv, M, h, hM, es, g0, g2⟩ : ∃ lv M, q4_run f 85 43 lv [.int ((if a1 = (0 : Int32) then r5 else (0 : Int32)))] M 0 0 = some r ∧ qa_O M ∧ qa_s M = m4 ∧ q4_get lv 0 = some (.ref 3) ∧ q4_get lv 2 = some (.int (r5)) := by
      by_cases c6 : a1 = (0 : Int32)
      · replace h := qa_icf (q := 38) (qa_e rfl h) rfl (qa_F_ne c6)
        replace h := qa_iload (n := 2) (q := 39) (qa_e rfl h) rfl g2
        replace h := qa_goto (q := 43) (qa_e rfl h) rfl
        exact ⟨lv, M, (qa_hi1 c6 h), hM, es, g0, g2⟩
      · replace h := qa_ict (q := 42) (qa_e rfl h) rfl (qa_T_ne c6)
        replace h := qa_push (z := (0 : Int32)) (q := 43) (qa_e rfl h) rfl (by decide)
        exact ⟨lv, M, (qa_hi0 c6 h), hM, es, g0, g2⟩
    obtain ⟨lv, h, g, T⟩ := qa_istore (n := 3) (q := 44) (qa_e rfl h) rfl
    replace g0 := T _ _ g0 (by decide) (Or.inr rfl)
    replace g2 := T _ _ g2 (by decide) (Or.inr rfl)
    have g3 := g
    clear g T
    replace h := qa_push (z := (0 : Int32)) (q := 45) (qa_e rfl h) rfl (by decide)
    obtain ⟨lv, h, g, T⟩ := qa_istore (n := 4) (q := 47) (qa_e rfl h) rfl
    replace g0 := T _ _ g0 (by decide) (Or.inr rfl)
    replace g2 := T _ _ g2 (by decide) (Or.inr rfl)
    replace g3 := T _ _ g3 (by decide) (Or.inr rfl)
    have g4 := g
    clear g T
    replace h := qa_push (z := (0 : Int32)) (q := 48) (qa_e rfl h) rfl (by decide)
    obtain ⟨lv, h, g, T⟩ := qa_istore (n := 5) (q := 50) (qa_e rfl h) rfl
    replace g0 := T _ _ g0 (by decide) (Or.inr rfl)
    replace g2 := T _ _ g2 (by decide) (Or.inr rfl)
    replace g3 := T _ _ g3 (by decide) (Or.inr rfl)
    replace g4 := T _ _ g4 (by decide) (Or.inr rfl)
    have g5 := g
    clear g T
    obtain ⟨r7, er7⟩ : ∃ x, x = (qa_wh (fun s => s) (mc_85_3_p50 N r5 (if a1 = (0 : Int32) then r5 else (0 : Int32))) N ((0 : Int32), (0 : Int32), m4)) := ⟨_, rfl⟩
    have L := md_85_3_p50 (l2 := r5) (l3 := (if a1 = (0 : Int32) then r5 else (0 : Int32))) (F := f) (N := N) (r := r) hN f N hN (Nat.le_refl f) ((0 : Int32), (0 : Int32), m4) _ _ hM es g0 g2 g3 g4 g5 h
    rw [← er7] at L
    obtain ⟨lv, M, h, hM, es, g4⟩ := L
    replace h := qa_iload (n := 4) (q := 100) (qa_e rfl h) rfl g4
    have er := qa_ri (qa_e rfl h)
    subst er
    have e0 : ma_85_3 N a1 σ = (r7.2.1, r7.2.2) := by exact Eq.trans (if_neg c1) (Eq.trans (qa_ie em3) (Eq.trans (qa_ie em4) (Eq.trans (qa_ie er5) (Eq.trans (qa_ie er7) (rfl)))))
    rw [e0]
    exact ⟨rfl, hM, es⟩
