/-- BuriedBySevensModel, wrongNumber, (III)I -/
noncomputable def ma_175 (a0 : Int32) (a1 : Int32) (a2 : Int32) : Int32 :=
  (if a0 < a1 then (-4 : Int32) else (if a2 < a0 then (-6 : Int32) else (0 : Int32)))
theorem mb_175 {f : Nat} {M : q4_M} {r : Option Value × q4_M} {σ : qa_S} {a0 : Int32} {a1 : Int32} {a2 : Int32} (hM : qa_O M) (es : qa_s M = σ) (h : q4_run f 175 0 (lv_args 0 [.int (a0), .int (a1), .int (a2)]) [] M 0 0 = some r) : r.1 = some (.int ((ma_175 a0 a1 a2))) ∧ qa_O r.2 ∧ qa_s r.2 = σ := by
  obtain ⟨lv, el⟩ : ∃ l, l = lv_args 0 [.int (a0), .int (a1), .int (a2)] := ⟨_, rfl⟩
  have g0 : q4_get lv 0 = some (.int (a0)) := by rw [el]; rfl
  have g1 : q4_get lv 1 = some (.int (a1)) := by rw [el]; rfl
  have g2 : q4_get lv 2 = some (.int (a2)) := by rw [el]; rfl
  rw [← el] at h
  clear el
  replace h := qa_iload (n := 0) (q := 1) (qa_e rfl h) rfl g0
  replace h := qa_iload (n := 1) (q := 2) (qa_e rfl h) rfl g1
  obtain ⟨lv, M, h, hM, es⟩ : ∃ lv M, q4_run f 175 21 lv [.int ((if a0 < a1 then (-4 : Int32) else (if a2 < a0 then (-6 : Int32) else (0 : Int32))))] M 0 0 = some r ∧ qa_O M ∧ qa_s M = σ := by
    by_cases c1 : a0 < a1
    · replace h := qa_iff (q := 5) (qa_e rfl h) rfl (qa_F_ge c1)
      replace h := qa_push (z := (-4 : Int32)) (q := 7) (qa_e rfl h) rfl (by decide)
      replace h := qa_goto (q := 21) (qa_e rfl h) rfl
      exact ⟨lv, M, (qa_hi1 c1 h), hM, es⟩
    · replace h := qa_ift (q := 10) (qa_e rfl h) rfl (qa_T_ge c1)
      replace h := qa_iload (n := 0) (q := 11) (qa_e rfl h) rfl g0
      replace h := qa_iload (n := 2) (q := 12) (qa_e rfl h) rfl g2
      obtain ⟨lv, M, h, hM, es⟩ : ∃ lv M, q4_run f 175 21 lv [.int ((if a2 < a0 then (-6 : Int32) else (0 : Int32)))] M 0 0 = some r ∧ qa_O M ∧ qa_s M = σ := by
        by_cases c2 : a2 < a0
        · replace h := qa_iff (q := 15) (qa_e rfl h) rfl (qa_F_le c2)
          replace h := qa_push (z := (-6 : Int32)) (q := 17) (qa_e rfl h) rfl (by decide)
          replace h := qa_goto (q := 21) (qa_e rfl h) rfl
          exact ⟨lv, M, (qa_hi1 c2 h), hM, es⟩
        · replace h := qa_ift (q := 20) (qa_e rfl h) rfl (qa_T_le c2)
          replace h := qa_push (z := (0 : Int32)) (q := 21) (qa_e rfl h) rfl (by decide)
          exact ⟨lv, M, (qa_hi0 c2 h), hM, es⟩
      exact ⟨lv, M, (qa_hi0 c1 h), hM, es⟩
  have er := qa_ri (qa_e rfl h)
  subst er
  have e0 : ma_175 a0 a1 a2 = (if a0 < a1 then (-4 : Int32) else (if a2 < a0 then (-6 : Int32) else (0 : Int32))) := by exact rfl
  rw [e0]
  exact ⟨rfl, hM, es⟩
noncomputable def mc_176_99_p12 (N : Nat) (s : Int32 × qa_S) : (Int32 × qa_S) ⊕ (Int32 × qa_S) :=
  if s.1 < (552 : Int32) then
    qa_in (qa_u s.2 119 (s.1 - (69 : Int32)).toNatClampNeg (s.2 119 s.1.toNatClampNeg)) fun m2 =>
    .inl ((s.1 + (1 : Int32)), m2)
  else
    .inr (s.1, s.2)
theorem md_176_99_p12 {N F : Nat} {r : Option Value × q4_M} (hN : F ≤ N) : ∀ f n, f ≤ n → f ≤ F → ∀ (s : Int32 × qa_S) (lv : List (Nat × Value)) (M : q4_M), qa_O M → qa_s M = s.2 → q4_get lv 0 = some (.ref 99) → q4_get lv 1 = some (.int (s.1)) → q4_run f 176 12 lv [] M 0 0 = some r → ∃ lv M, q4_run F 176 40 lv [] M 0 0 = some r ∧ qa_O M ∧ qa_s M = (qa_wh (fun s => s) (mc_176_99_p12 N) n s).2 ∧ q4_get lv 0 = some (.ref 99) := by
  intro f
  induction f with
  | zero => intro n _ _ s lv M hM es _ _ h; cases h
  | succ f ih =>
    intro n hn hF s lv M hM es g0 g1 h
    obtain ⟨n, rfl⟩ : ∃ n1, n = n1 + 1 := ⟨n - 1, by omega⟩
    replace hn : f ≤ n := Nat.le_of_succ_le_succ hn
    have hN := Nat.le_trans (Nat.le_of_succ_le hF) hN
    replace h := qa_iload (n := 1) (q := 13) (qa_d rfl h) rfl g1
    replace h := qa_push (z := (552 : Int32)) (q := 16) (qa_e rfl h) rfl (by decide)
    by_cases c1 : s.1 < (552 : Int32)
    · replace h := qa_iff (q := 19) (qa_e rfl h) rfl (qa_F_ge c1)
      replace h := qa_aload (n := 0) (q := 20) (qa_e rfl h) rfl g0
      replace h := qa_gr (b := 119) (j := 30) (q := 23) (qa_e rfl h) rfl hM rfl (by decide)
      replace h := qa_iload (n := 1) (q := 24) (qa_e rfl h) rfl g1
      replace h := qa_push (z := (69 : Int32)) (q := 26) (qa_e rfl h) rfl (by decide)
      replace h := qa_isub (q := 27) (qa_e rfl h) rfl
      replace h := qa_aload (n := 0) (q := 28) (qa_e rfl h) rfl g0
      replace h := qa_gr (b := 119) (j := 30) (q := 31) (qa_e rfl h) rfl hM rfl (by decide)
      replace h := qa_iload (n := 1) (q := 32) (qa_e rfl h) rfl g1
      replace h := qa_iaload (jn := s.1.toNatClampNeg) (q := 33) (qa_e rfl h) rfl hM es rfl
      obtain ⟨m2, em2⟩ : ∃ x, x = qa_u s.2 119 (s.1 - (69 : Int32)).toNatClampNeg (s.2 119 s.1.toNatClampNeg) := ⟨_, rfl⟩
      obtain ⟨M, h, hM, es⟩ := qa_iastore (jn := (s.1 - (69 : Int32)).toNatClampNeg) (q := 34) (qa_e rfl h) rfl hM es rfl
      rw [← em2] at es
      obtain ⟨lv, h, g, T⟩ := qa_iinc (n := 1) (z := (1 : Int32)) (q := 37) (qa_e rfl h) rfl (by decide) g1
      replace g0 := T _ _ g0 (by decide) (Or.inr rfl)
      replace g1 := g
      clear g T
      replace h := qa_goto (q := 12) (qa_e rfl h) rfl
      have e0 : mc_176_99_p12 N s = .inl ((s.1 + (1 : Int32)), m2) := by exact Eq.trans (if_pos c1) (Eq.trans (qa_ie em2) (rfl))
      rw [qa_whl e0]
      exact ih n hn (Nat.le_of_succ_le hF) ((s.1 + (1 : Int32)), m2) _ _ hM es g0 g1 h
    · replace h := qa_ift (q := 40) (qa_e rfl h) rfl (qa_T_ge c1)
      have e0 : mc_176_99_p12 N s = .inr (s.1, s.2) := by exact Eq.trans (if_neg c1) (rfl)
      rw [qa_whr e0]
      exact ⟨_, _, q61_mono f F _ _ _ _ _ _ _ _ (Nat.le_of_succ_le hF) h, hM, es, g0⟩
noncomputable def mc_176_99_p61 (N : Nat) (s : Int32 × qa_S) : (Int32 × qa_S) ⊕ (Int32 × qa_S) :=
  if s.1 < (69 : Int32) then
    qa_in (qa_u s.2 119 (((69 : Int32) * (s.2 99 32)) + s.1).toNatClampNeg (s.2 120 s.1.toNatClampNeg)) fun m2 =>
    .inl ((s.1 + (1 : Int32)), m2)
  else
    .inr (s.1, s.2)
theorem md_176_99_p61 {N F : Nat} {r : Option Value × q4_M} (hN : F ≤ N) : ∀ f n, f ≤ n → f ≤ F → ∀ (s : Int32 × qa_S) (lv : List (Nat × Value)) (M : q4_M), qa_O M → qa_s M = s.2 → q4_get lv 0 = some (.ref 99) → q4_get lv 1 = some (.int (s.1)) → q4_run f 176 61 lv [] M 0 0 = some r → ∃ lv M, q4_run F 176 93 lv [] M 0 0 = some r ∧ qa_O M ∧ qa_s M = (qa_wh (fun s => s) (mc_176_99_p61 N) n s).2 ∧ q4_get lv 0 = some (.ref 99) := by
  intro f
  induction f with
  | zero => intro n _ _ s lv M hM es _ _ h; cases h
  | succ f ih =>
    intro n hn hF s lv M hM es g0 g1 h
    obtain ⟨n, rfl⟩ : ∃ n1, n = n1 + 1 := ⟨n - 1, by omega⟩
    replace hn : f ≤ n := Nat.le_of_succ_le_succ hn
    have hN := Nat.le_trans (Nat.le_of_succ_le hF) hN
    replace h := qa_iload (n := 1) (q := 62) (qa_d rfl h) rfl g1
    replace h := qa_push (z := (69 : Int32)) (q := 64) (qa_e rfl h) rfl (by decide)
    by_cases c1 : s.1 < (69 : Int32)
    · replace h := qa_iff (q := 67) (qa_e rfl h) rfl (qa_F_ge c1)
      replace h := qa_aload (n := 0) (q := 68) (qa_e rfl h) rfl g0
      replace h := qa_gr (b := 119) (j := 30) (q := 71) (qa_e rfl h) rfl hM rfl (by decide)
      replace h := qa_push (z := (69 : Int32)) (q := 73) (qa_e rfl h) rfl (by decide)
      replace h := qa_aload (n := 0) (q := 74) (qa_e rfl h) rfl g0
      replace h := qa_gi (j := 32) (q := 77) (qa_e rfl h) rfl hM es rfl (by decide)
      replace h := qa_imul (q := 78) (qa_e rfl h) rfl
      replace h := qa_iload (n := 1) (q := 79) (qa_e rfl h) rfl g1
      replace h := qa_iadd (q := 80) (qa_e rfl h) rfl
      replace h := qa_aload (n := 0) (q := 81) (qa_e rfl h) rfl g0
      replace h := qa_gr (b := 120) (j := 31) (q := 84) (qa_e rfl h) rfl hM rfl (by decide)
      replace h := qa_iload (n := 1) (q := 85) (qa_e rfl h) rfl g1
      replace h := qa_iaload (jn := s.1.toNatClampNeg) (q := 86) (qa_e rfl h) rfl hM es rfl
      obtain ⟨m2, em2⟩ : ∃ x, x = qa_u s.2 119 (((69 : Int32) * (s.2 99 32)) + s.1).toNatClampNeg (s.2 120 s.1.toNatClampNeg) := ⟨_, rfl⟩
      obtain ⟨M, h, hM, es⟩ := qa_iastore (jn := (((69 : Int32) * (s.2 99 32)) + s.1).toNatClampNeg) (q := 87) (qa_e rfl h) rfl hM es rfl
      rw [← em2] at es
      obtain ⟨lv, h, g, T⟩ := qa_iinc (n := 1) (z := (1 : Int32)) (q := 90) (qa_e rfl h) rfl (by decide) g1
      replace g0 := T _ _ g0 (by decide) (Or.inr rfl)
      replace g1 := g
      clear g T
      replace h := qa_goto (q := 61) (qa_e rfl h) rfl
      have e0 : mc_176_99_p61 N s = .inl ((s.1 + (1 : Int32)), m2) := by exact Eq.trans (if_pos c1) (Eq.trans (qa_ie em2) (rfl))
      rw [qa_whl e0]
      exact ih n hn (Nat.le_of_succ_le hF) ((s.1 + (1 : Int32)), m2) _ _ hM es g0 g1 h
    · replace h := qa_ift (q := 93) (qa_e rfl h) rfl (qa_T_ge c1)
      have e0 : mc_176_99_p61 N s = .inr (s.1, s.2) := by exact Eq.trans (if_neg c1) (rfl)
      rw [qa_whr e0]
      exact ⟨_, _, q61_mono f F _ _ _ _ _ _ _ _ (Nat.le_of_succ_le hF) h, hM, es, g0⟩
/-- BuriedBySevensModel, keepTurn, ()V -/
noncomputable def ma_176_99 (N : Nat) (σ : qa_S) : qa_S :=
  qa_in ((qa_wh (fun s => s) (mc_176_99_p12 N) N ((69 : Int32), σ))) fun r2 =>
  qa_in (qa_u r2.2 99 32 ((r2.2 99 32) - (1 : Int32))) fun m3 =>
  qa_in ((if (σ 99 32) = (8 : Int32) then m3 else σ)) fun m4 =>
  qa_in ((ma_159_99_120 N (1 : Int32) m4)) fun m5 =>
  qa_in ((qa_wh (fun s => s) (mc_176_99_p61 N) N ((0 : Int32), m5))) fun r6 =>
  qa_in (qa_u r6.2 99 32 ((r6.2 99 32) + (1 : Int32))) fun m7 =>
  m7
theorem mb_176_99 {f N : Nat} (hN : f ≤ N) {M : q4_M} {r : Option Value × q4_M} {σ : qa_S} (hM : qa_O M) (es : qa_s M = σ) (h : q4_run f 176 0 (lv_args 0 [.ref 99]) [] M 0 0 = some r) : r.1 = none ∧ qa_O r.2 ∧ qa_s r.2 = (ma_176_99 N σ) := by
  obtain ⟨lv, el⟩ : ∃ l, l = lv_args 0 [.ref 99] := ⟨_, rfl⟩
  have g0 : q4_get lv 0 = some (.ref 99) := by rw [el]; rfl
  rw [← el] at h
  clear el
  replace h := qa_aload (n := 0) (q := 1) (qa_e rfl h) rfl g0
  replace h := qa_gi (j := 32) (q := 4) (qa_e rfl h) rfl hM es rfl (by decide)
  replace h := qa_push (z := (8 : Int32)) (q := 6) (qa_e rfl h) rfl (by decide)
  obtain ⟨r2, er2⟩ : ∃ x, x = (qa_wh (fun s => s) (mc_176_99_p12 N) N ((69 : Int32), σ)) := ⟨_, rfl⟩
  obtain ⟨m3, em3⟩ : ∃ x, x = qa_u r2.2 99 32 ((r2.2 99 32) - (1 : Int32)) := ⟨_, rfl⟩
  obtain ⟨m4, em4⟩ : ∃ x, x = (if (σ 99 32) = (8 : Int32) then m3 else σ) := ⟨_, rfl⟩
  obtain ⟨lv, M, h, hM, es, g0⟩ : ∃ lv M, q4_run f 176 50 lv [] M 0 0 = some r ∧ qa_O M ∧ qa_s M = m4 ∧ q4_get lv 0 = some (.ref 99) := by
    by_cases c1 : (σ 99 32) = (8 : Int32)
    · replace h := qa_iff (q := 9) (qa_e rfl h) rfl (qa_F_ne c1)
      replace h := qa_push (z := (69 : Int32)) (q := 11) (qa_e rfl h) rfl (by decide)
      obtain ⟨lv, h, g, T⟩ := qa_istore (n := 1) (q := 12) (qa_e rfl h) rfl
      replace g0 := T _ _ g0 (by decide) (Or.inr rfl)
      have g1 := g
      clear g T
      have L := md_176_99_p12 (F := f) (N := N) (r := r) hN f N hN (Nat.le_refl f) ((69 : Int32), σ) _ _ hM es g0 g1 h
      rw [← er2] at L
      obtain ⟨lv, M, h, hM, es, g0⟩ := L
      replace h := qa_aload (n := 0) (q := 41) (qa_e rfl h) rfl g0
      replace h := qa_dupa (q := 42) (qa_e rfl h) rfl
      replace h := qa_gi (j := 32) (q := 45) (qa_e rfl h) rfl hM es rfl (by decide)
      replace h := qa_push (z := (1 : Int32)) (q := 46) (qa_e rfl h) rfl (by decide)
      replace h := qa_isub (q := 47) (qa_e rfl h) rfl
      obtain ⟨M, h, hM, es⟩ := qa_pf (j := 32) (q := 50) (qa_e rfl h) rfl hM es rfl (by decide)
      rw [← em3] at es
      exact ⟨lv, M, h, hM, ((qa_ms1 c1 es).trans em4.symm), g0⟩
    · replace h := qa_ift (q := 50) (qa_e rfl h) rfl (qa_T_ne c1)
      exact ⟨lv, M, h, hM, ((qa_ms0 c1 es).trans em4.symm), g0⟩
  replace h := qa_aload (n := 0) (q := 51) (qa_e rfl h) rfl g0
  replace h := qa_aload (n := 0) (q := 52) (qa_e rfl h) rfl g0
  replace h := qa_gr (b := 120) (j := 31) (q := 55) (qa_e rfl h) rfl hM rfl (by decide)
  replace h := qa_push (z := (1 : Int32)) (q := 56) (qa_e rfl h) rfl (by decide)
  obtain ⟨m5, em5⟩ : ∃ x, x = (ma_159_99_120 N (1 : Int32) m4) := ⟨_, rfl⟩
  obtain ⟨M, h, hM, es⟩ := qa_c0 (y := 159) (as := [.ref 99, .ref 120, .int ((1 : Int32))]) (rest := []) (i := .invokevirtual 159) (q := 59) (qa_e rfl h) (Or.inl rfl) rfl rfl (by decide) rfl (fun r hc => mb_159_99_120 hN hM es hc)
  rw [← em5] at es
  replace h := qa_push (z := (0 : Int32)) (q := 60) (qa_e rfl h) rfl (by decide)
  obtain ⟨lv, h, g, T⟩ := qa_istore (n := 1) (q := 61) (qa_e rfl h) rfl
  replace g0 := T _ _ g0 (by decide) (Or.inr rfl)
  have g1 := g
  clear g T
  obtain ⟨r6, er6⟩ : ∃ x, x = (qa_wh (fun s => s) (mc_176_99_p61 N) N ((0 : Int32), m5)) := ⟨_, rfl⟩
  have L := md_176_99_p61 (F := f) (N := N) (r := r) hN f N hN (Nat.le_refl f) ((0 : Int32), m5) _ _ hM es g0 g1 h
  rw [← er6] at L
  obtain ⟨lv, M, h, hM, es, g0⟩ := L
  replace h := qa_aload (n := 0) (q := 94) (qa_e rfl h) rfl g0
  replace h := qa_dupa (q := 95) (qa_e rfl h) rfl
  replace h := qa_gi (j := 32) (q := 98) (qa_e rfl h) rfl hM es rfl (by decide)
  replace h := qa_push (z := (1 : Int32)) (q := 99) (qa_e rfl h) rfl (by decide)
  replace h := qa_iadd (q := 100) (qa_e rfl h) rfl
  obtain ⟨m7, em7⟩ : ∃ x, x = qa_u r6.2 99 32 ((r6.2 99 32) + (1 : Int32)) := ⟨_, rfl⟩
  obtain ⟨M, h, hM, es⟩ := qa_pf (j := 32) (q := 103) (qa_e rfl h) rfl hM es rfl (by decide)
  rw [← em7] at es
  have er := qa_rv (qa_e rfl h)
  subst er
  have e0 : ma_176_99 N σ = m7 := by exact Eq.trans (qa_ie er2) (Eq.trans (qa_ie em3) (Eq.trans (qa_ie em4) (Eq.trans (qa_ie em5) (Eq.trans (qa_ie er6) (Eq.trans (qa_ie em7) (rfl))))))
  rw [e0]
  exact ⟨rfl, hM, es⟩
/-- BuriedBySevensModel, share, (II)I -/
noncomputable def ma_174_99 (N : Nat) (a1 : Int32) (a2 : Int32) (σ : qa_S) : Int32 × qa_S :=
  qa_in (qa_u σ 99 9 (0 : Int32)) fun m1 =>
  if (if (ma_163_99 a1 m1) = (0 : Int32) then (-1 : Int32) else (ma_175 a2 (0 : Int32) (9 : Int32))) < (0 : Int32) then
    qa_in ((ma_152_99 (if (ma_163_99 a1 m1) = (0 : Int32) then (-1 : Int32) else (ma_175 a2 (0 : Int32) (9 : Int32))) m1)) fun r4 =>
    (r4.1, r4.2)
  else
    qa_in ((ma_176_99 N m1)) fun m5 =>
    qa_in (qa_u m5 103 a1.toNatClampNeg a2) fun m6 =>
    ((m5 103 a1.toNatClampNeg), m6)
theorem mb_174_99 {f N : Nat} (hN : f ≤ N) {M : q4_M} {r : Option Value × q4_M} {σ : qa_S} {a1 : Int32} {a2 : Int32} (hM : qa_O M) (es : qa_s M = σ) (h : q4_run f 174 0 (lv_args 0 [.ref 99, .int (a1), .int (a2)]) [] M 0 0 = some r) : r.1 = some (.int ((ma_174_99 N a1 a2 σ).1)) ∧ qa_O r.2 ∧ qa_s r.2 = (ma_174_99 N a1 a2 σ).2 := by
  obtain ⟨lv, el⟩ : ∃ l, l = lv_args 0 [.ref 99, .int (a1), .int (a2)] := ⟨_, rfl⟩
  have g0 : q4_get lv 0 = some (.ref 99) := by rw [el]; rfl
  have g1 : q4_get lv 1 = some (.int (a1)) := by rw [el]; rfl
  have g2 : q4_get lv 2 = some (.int (a2)) := by rw [el]; rfl
  rw [← el] at h
  clear el
  replace h := qa_aload (n := 0) (q := 1) (qa_e rfl h) rfl g0
  replace h := qa_push (z := (0 : Int32)) (q := 2) (qa_e rfl h) rfl (by decide)
  obtain ⟨m1, em1⟩ : ∃ x, x = qa_u σ 99 9 (0 : Int32) := ⟨_, rfl⟩
  obtain ⟨M, h, hM, es⟩ := qa_pf (j := 9) (q := 5) (qa_e rfl h) rfl hM es rfl (by decide)
  rw [← em1] at es
  replace h := qa_aload (n := 0) (q := 6) (qa_e rfl h) rfl g0
  replace h := qa_iload (n := 1) (q := 7) (qa_e rfl h) rfl g1
  obtain ⟨M, h, hM, es⟩ := qa_c1 (y := 163) (as := [.ref 99, .int (a1)]) (rest := []) (i := .invokevirtual 163) (q := 10) (qa_e rfl h) (Or.inl rfl) rfl rfl (by decide) rfl (fun r hc => mb_163_99 hM es hc)
  obtain ⟨lv, M, h, hM, es, g0, g1, g2⟩ : ∃ lv M, q4_run f 174 24 lv [.int ((if (ma_163_99 a1 m1) = (0 : Int32) then (-1 : Int32) else (ma_175 a2 (0 : Int32) (9 : Int32))))] M 0 0 = some r ∧ qa_O M ∧ qa_s M = m1 ∧ q4_get lv 0 = some (.ref 99) ∧ q4_get lv 1 = some (.int (a1)) ∧ q4_get lv 2 = some (.int (a2)) := by
    by_cases c2 : (ma_163_99 a1 m1) = (0 : Int32)
    · replace h := qa_ict (q := 23) (qa_e rfl h) rfl (qa_T_eq c2)
      replace h := qa_push (z := (-1 : Int32)) (q := 24) (qa_e rfl h) rfl (by decide)
      exact ⟨lv, M, (qa_hi1 c2 h), hM, es, g0, g1, g2⟩
    · replace h := qa_icf (q := 13) (qa_e rfl h) rfl (qa_F_eq c2)
      replace h := qa_iload (n := 2) (q := 14) (qa_e rfl h) rfl g2
      replace h := qa_push (z := (0 : Int32)) (q := 15) (qa_e rfl h) rfl (by decide)
      replace h := qa_push (z := (9 : Int32)) (q := 17) (qa_e rfl h) rfl (by decide)
      obtain ⟨M, h, hM, es⟩ := qa_c1 (y := 175) (as := [.int (a2), .int ((0 : Int32)), .int ((9 : Int32))]) (rest := []) (i := .invokestatic 175) (q := 20) (qa_e rfl h) (Or.inr rfl) rfl rfl (by decide) rfl (fun r hc => mb_175 hM es hc)
      replace h := qa_goto (q := 24) (qa_e rfl h) rfl
      exact ⟨lv, M, (qa_hi0 c2 h), hM, es, g0, g1, g2⟩
  obtain ⟨lv, h, g, T⟩ := qa_istore (n := 3) (q := 25) (qa_e rfl h) rfl
  replace g0 := T _ _ g0 (by decide) (Or.inr rfl)
  replace g1 := T _ _ g1 (by decide) (Or.inr rfl)
  replace g2 := T _ _ g2 (by decide) (Or.inr rfl)
  have g3 := g
  clear g T
  replace h := qa_iload (n := 3) (q := 26) (qa_e rfl h) rfl g3
  by_cases c3 : (if (ma_163_99 a1 m1) = (0 : Int32) then (-1 : Int32) else (ma_175 a2 (0 : Int32) (9 : Int32))) < (0 : Int32)
  · replace h := qa_icf (q := 29) (qa_e rfl h) rfl (qa_F_ge c3)
    replace h := qa_aload (n := 0) (q := 30) (qa_e rfl h) rfl g0
    replace h := qa_iload (n := 3) (q := 31) (qa_e rfl h) rfl g3
    obtain ⟨r4, er4⟩ : ∃ x, x = (ma_152_99 (if (ma_163_99 a1 m1) = (0 : Int32) then (-1 : Int32) else (ma_175 a2 (0 : Int32) (9 : Int32))) m1) := ⟨_, rfl⟩
    obtain ⟨M, h, hM, es⟩ := qa_c1 (y := 152) (as := [.ref 99, .int ((if (ma_163_99 a1 m1) = (0 : Int32) then (-1 : Int32) else (ma_175 a2 (0 : Int32) (9 : Int32))))]) (rest := []) (i := .invokevirtual 152) (q := 34) (qa_e rfl h) (Or.inl rfl) rfl rfl (by decide) rfl (fun r hc => mb_152_99 hM es hc)
    rw [← er4] at h es
    have er := qa_ri (qa_e rfl h)
    subst er
    have e0 : ma_174_99 N a1 a2 σ = (r4.1, r4.2) := by exact Eq.trans (qa_ie em1) (Eq.trans (if_pos c3) (Eq.trans (qa_ie er4) (rfl)))
    rw [e0]
    exact ⟨rfl, hM, es⟩
  · replace h := qa_ict (q := 35) (qa_e rfl h) rfl (qa_T_ge c3)
    replace h := qa_aload (n := 0) (q := 36) (qa_e rfl h) rfl g0
    obtain ⟨m5, em5⟩ : ∃ x, x = (ma_176_99 N m1) := ⟨_, rfl⟩
    obtain ⟨M, h, hM, es⟩ := qa_c0 (y := 176) (as := [.ref 99]) (rest := []) (i := .invokevirtual 176) (q := 39) (qa_e rfl h) (Or.inl rfl) rfl rfl (by decide) rfl (fun r hc => mb_176_99 hN hM es hc)
    rw [← em5] at es
    replace h := qa_aload (n := 0) (q := 40) (qa_e rfl h) rfl g0
    replace h := qa_gr (b := 103) (j := 4) (q := 43) (qa_e rfl h) rfl hM rfl (by decide)
    replace h := qa_iload (n := 1) (q := 44) (qa_e rfl h) rfl g1
    replace h := qa_iaload (jn := a1.toNatClampNeg) (q := 45) (qa_e rfl h) rfl hM es rfl
    obtain ⟨lv, h, g, T⟩ := qa_istore (n := 4) (q := 47) (qa_e rfl h) rfl
    replace g0 := T _ _ g0 (by decide) (Or.inr rfl)
    replace g1 := T _ _ g1 (by decide) (Or.inr rfl)
    replace g2 := T _ _ g2 (by decide) (Or.inr rfl)
    have g4 := g
    clear g T
    replace h := qa_aload (n := 0) (q := 48) (qa_e rfl h) rfl g0
    replace h := qa_gr (b := 103) (j := 4) (q := 51) (qa_e rfl h) rfl hM rfl (by decide)
    replace h := qa_iload (n := 1) (q := 52) (qa_e rfl h) rfl g1
    replace h := qa_iload (n := 2) (q := 53) (qa_e rfl h) rfl g2
    obtain ⟨m6, em6⟩ : ∃ x, x = qa_u m5 103 a1.toNatClampNeg a2 := ⟨_, rfl⟩
    obtain ⟨M, h, hM, es⟩ := qa_iastore (jn := a1.toNatClampNeg) (q := 54) (qa_e rfl h) rfl hM es rfl
    rw [← em6] at es
    replace h := qa_iload (n := 4) (q := 56) (qa_e rfl h) rfl g4
    have er := qa_ri (qa_e rfl h)
    subst er
    have e0 : ma_174_99 N a1 a2 σ = ((m5 103 a1.toNatClampNeg), m6) := by exact Eq.trans (qa_ie em1) (Eq.trans (if_neg c3) (Eq.trans (qa_ie em5) (Eq.trans (qa_ie em6) (rfl))))
    rw [e0]
    exact ⟨rfl, hM, es⟩
/-- BuriedBySevensModel, mark, (III)I -/
noncomputable def ma_177_99 (N : Nat) (a1 : Int32) (a2 : Int32) (a3 : Int32) (σ : qa_S) : Int32 × qa_S :=
  qa_in (qa_u σ 99 9 (0 : Int32)) fun m1 =>
  if (if (ma_163_99 a1 m1) = (0 : Int32) then (-1 : Int32) else (if (ma_165 a2) = (0 : Int32) then (-1 : Int32) else (ma_175 a3 (0 : Int32) (9 : Int32)))) < (0 : Int32) then
    qa_in ((ma_152_99 (if (ma_163_99 a1 m1) = (0 : Int32) then (-1 : Int32) else (if (ma_165 a2) = (0 : Int32) then (-1 : Int32) else (ma_175 a3 (0 : Int32) (9 : Int32)))) m1)) fun r5 =>
    (r5.1, r5.2)
  else
    qa_in ((ma_176_99 N m1)) fun m6 =>
    qa_in (qa_u m6 102 (((4 : Int32) * a1) + a2).toNatClampNeg a3) fun m7 =>
    ((m6 102 (((4 : Int32) * a1) + a2).toNatClampNeg), m7)
theorem mb_177_99 {f N : Nat} (hN : f ≤ N) {M : q4_M} {r : Option Value × q4_M} {σ : qa_S} {a1 : Int32} {a2 : Int32} {a3 : Int32} (hM : qa_O M) (es : qa_s M = σ) (h : q4_run f 177 0 (lv_args 0 [.ref 99, .int (a1), .int (a2), .int (a3)]) [] M 0 0 = some r) : r.1 = some (.int ((ma_177_99 N a1 a2 a3 σ).1)) ∧ qa_O r.2 ∧ qa_s r.2 = (ma_177_99 N a1 a2 a3 σ).2 := by
  obtain ⟨lv, el⟩ : ∃ l, l = lv_args 0 [.ref 99, .int (a1), .int (a2), .int (a3)] := ⟨_, rfl⟩
  have g0 : q4_get lv 0 = some (.ref 99) := by rw [el]; rfl
  have g1 : q4_get lv 1 = some (.int (a1)) := by rw [el]; rfl
  have g2 : q4_get lv 2 = some (.int (a2)) := by rw [el]; rfl
  have g3 : q4_get lv 3 = some (.int (a3)) := by rw [el]; rfl
  rw [← el] at h
  clear el
  replace h := qa_aload (n := 0) (q := 1) (qa_e rfl h) rfl g0
  replace h := qa_push (z := (0 : Int32)) (q := 2) (qa_e rfl h) rfl (by decide)
  obtain ⟨m1, em1⟩ : ∃ x, x = qa_u σ 99 9 (0 : Int32) := ⟨_, rfl⟩
  obtain ⟨M, h, hM, es⟩ := qa_pf (j := 9) (q := 5) (qa_e rfl h) rfl hM es rfl (by decide)
  rw [← em1] at es
  replace h := qa_aload (n := 0) (q := 6) (qa_e rfl h) rfl g0
  replace h := qa_iload (n := 1) (q := 7) (qa_e rfl h) rfl g1
  obtain ⟨M, h, hM, es⟩ := qa_c1 (y := 163) (as := [.ref 99, .int (a1)]) (rest := []) (i := .invokevirtual 163) (q := 10) (qa_e rfl h) (Or.inl rfl) rfl rfl (by decide) rfl (fun r hc => mb_163_99 hM es hc)
  obtain ⟨lv, M, h, hM, es, g0, g1, g2, g3⟩ : ∃ lv M, q4_run f 177 31 lv [.int ((if (ma_163_99 a1 m1) = (0 : Int32) then (-1 : Int32) else (if (ma_165 a2) = (0 : Int32) then (-1 : Int32) else (ma_175 a3 (0 : Int32) (9 : Int32)))))] M 0 0 = some r ∧ qa_O M ∧ qa_s M = m1 ∧ q4_get lv 0 = some (.ref 99) ∧ q4_get lv 1 = some (.int (a1)) ∧ q4_get lv 2 = some (.int (a2)) ∧ q4_get lv 3 = some (.int (a3)) := by
    by_cases c2 : (ma_163_99 a1 m1) = (0 : Int32)
    · replace h := qa_ict (q := 30) (qa_e rfl h) rfl (qa_T_eq c2)
      replace h := qa_push (z := (-1 : Int32)) (q := 31) (qa_e rfl h) rfl (by decide)
      exact ⟨lv, M, (qa_hi1 c2 h), hM, es, g0, g1, g2, g3⟩
    · replace h := qa_icf (q := 13) (qa_e rfl h) rfl (qa_F_eq c2)
      replace h := qa_iload (n := 2) (q := 14) (qa_e rfl h) rfl g2
      obtain ⟨M, h, hM, es⟩ := qa_c1 (y := 165) (as := [.int (a2)]) (rest := []) (i := .invokestatic 165) (q := 17) (qa_e rfl h) (Or.inr rfl) rfl rfl (by decide) rfl (fun r hc => mb_165 hM es hc)
      obtain ⟨lv, M, h, hM, es, g0, g1, g2, g3⟩ : ∃ lv M, q4_run f 177 31 lv [.int ((if (ma_165 a2) = (0 : Int32) then (-1 : Int32) else (ma_175 a3 (0 : Int32) (9 : Int32))))] M 0 0 = some r ∧ qa_O M ∧ qa_s M = m1 ∧ q4_get lv 0 = some (.ref 99) ∧ q4_get lv 1 = some (.int (a1)) ∧ q4_get lv 2 = some (.int (a2)) ∧ q4_get lv 3 = some (.int (a3)) := by
        by_cases c3 : (ma_165 a2) = (0 : Int32)
        · replace h := qa_ict (q := 30) (qa_e rfl h) rfl (qa_T_eq c3)
          replace h := qa_push (z := (-1 : Int32)) (q := 31) (qa_e rfl h) rfl (by decide)
          exact ⟨lv, M, (qa_hi1 c3 h), hM, es, g0, g1, g2, g3⟩
        · replace h := qa_icf (q := 20) (qa_e rfl h) rfl (qa_F_eq c3)
          replace h := qa_iload (n := 3) (q := 21) (qa_e rfl h) rfl g3
          replace h := qa_push (z := (0 : Int32)) (q := 22) (qa_e rfl h) rfl (by decide)
          replace h := qa_push (z := (9 : Int32)) (q := 24) (qa_e rfl h) rfl (by decide)
          obtain ⟨M, h, hM, es⟩ := qa_c1 (y := 175) (as := [.int (a3), .int ((0 : Int32)), .int ((9 : Int32))]) (rest := []) (i := .invokestatic 175) (q := 27) (qa_e rfl h) (Or.inr rfl) rfl rfl (by decide) rfl (fun r hc => mb_175 hM es hc)
          replace h := qa_goto (q := 31) (qa_e rfl h) rfl
          exact ⟨lv, M, (qa_hi0 c3 h), hM, es, g0, g1, g2, g3⟩
      exact ⟨lv, M, (qa_hi0 c2 h), hM, es, g0, g1, g2, g3⟩
  obtain ⟨lv, h, g, T⟩ := qa_istore (n := 4) (q := 33) (qa_e rfl h) rfl
  replace g0 := T _ _ g0 (by decide) (Or.inr rfl)
  replace g1 := T _ _ g1 (by decide) (Or.inr rfl)
  replace g2 := T _ _ g2 (by decide) (Or.inr rfl)
  replace g3 := T _ _ g3 (by decide) (Or.inr rfl)
  have g4 := g
  clear g T
  replace h := qa_iload (n := 4) (q := 35) (qa_e rfl h) rfl g4
  by_cases c4 : (if (ma_163_99 a1 m1) = (0 : Int32) then (-1 : Int32) else (if (ma_165 a2) = (0 : Int32) then (-1 : Int32) else (ma_175 a3 (0 : Int32) (9 : Int32)))) < (0 : Int32)
  · replace h := qa_icf (q := 38) (qa_e rfl h) rfl (qa_F_ge c4)
    replace h := qa_aload (n := 0) (q := 39) (qa_e rfl h) rfl g0
    replace h := qa_iload (n := 4) (q := 41) (qa_e rfl h) rfl g4
    obtain ⟨r5, er5⟩ : ∃ x, x = (ma_152_99 (if (ma_163_99 a1 m1) = (0 : Int32) then (-1 : Int32) else (if (ma_165 a2) = (0 : Int32) then (-1 : Int32) else (ma_175 a3 (0 : Int32) (9 : Int32)))) m1) := ⟨_, rfl⟩
    obtain ⟨M, h, hM, es⟩ := qa_c1 (y := 152) (as := [.ref 99, .int ((if (ma_163_99 a1 m1) = (0 : Int32) then (-1 : Int32) else (if (ma_165 a2) = (0 : Int32) then (-1 : Int32) else (ma_175 a3 (0 : Int32) (9 : Int32)))))]) (rest := []) (i := .invokevirtual 152) (q := 44) (qa_e rfl h) (Or.inl rfl) rfl rfl (by decide) rfl (fun r hc => mb_152_99 hM es hc)
    rw [← er5] at h es
    have er := qa_ri (qa_e rfl h)
    subst er
    have e0 : ma_177_99 N a1 a2 a3 σ = (r5.1, r5.2) := by exact Eq.trans (qa_ie em1) (Eq.trans (if_pos c4) (Eq.trans (qa_ie er5) (rfl)))
    rw [e0]
    exact ⟨rfl, hM, es⟩
  · replace h := qa_ict (q := 45) (qa_e rfl h) rfl (qa_T_ge c4)
    replace h := qa_aload (n := 0) (q := 46) (qa_e rfl h) rfl g0
    obtain ⟨m6, em6⟩ : ∃ x, x = (ma_176_99 N m1) := ⟨_, rfl⟩
    obtain ⟨M, h, hM, es⟩ := qa_c0 (y := 176) (as := [.ref 99]) (rest := []) (i := .invokevirtual 176) (q := 49) (qa_e rfl h) (Or.inl rfl) rfl rfl (by decide) rfl (fun r hc => mb_176_99 hN hM es hc)
    rw [← em6] at es
    replace h := qa_aload (n := 0) (q := 50) (qa_e rfl h) rfl g0
    replace h := qa_gr (b := 102) (j := 3) (q := 53) (qa_e rfl h) rfl hM rfl (by decide)
    replace h := qa_push (z := (4 : Int32)) (q := 54) (qa_e rfl h) rfl (by decide)
    replace h := qa_iload (n := 1) (q := 55) (qa_e rfl h) rfl g1
    replace h := qa_imul (q := 56) (qa_e rfl h) rfl
    replace h := qa_iload (n := 2) (q := 57) (qa_e rfl h) rfl g2
    replace h := qa_iadd (q := 58) (qa_e rfl h) rfl
    replace h := qa_iaload (jn := (((4 : Int32) * a1) + a2).toNatClampNeg) (q := 59) (qa_e rfl h) rfl hM es rfl
    obtain ⟨lv, h, g, T⟩ := qa_istore (n := 5) (q := 61) (qa_e rfl h) rfl
    replace g0 := T _ _ g0 (by decide) (Or.inr rfl)
    replace g1 := T _ _ g1 (by decide) (Or.inr rfl)
    replace g2 := T _ _ g2 (by decide) (Or.inr rfl)
    replace g3 := T _ _ g3 (by decide) (Or.inr rfl)
    have g5 := g
    clear g T
    replace h := qa_aload (n := 0) (q := 62) (qa_e rfl h) rfl g0
    replace h := qa_gr (b := 102) (j := 3) (q := 65) (qa_e rfl h) rfl hM rfl (by decide)
    replace h := qa_push (z := (4 : Int32)) (q := 66) (qa_e rfl h) rfl (by decide)
    replace h := qa_iload (n := 1) (q := 67) (qa_e rfl h) rfl g1
    replace h := qa_imul (q := 68) (qa_e rfl h) rfl
    replace h := qa_iload (n := 2) (q := 69) (qa_e rfl h) rfl g2
    replace h := qa_iadd (q := 70) (qa_e rfl h) rfl
    replace h := qa_iload (n := 3) (q := 71) (qa_e rfl h) rfl g3
    obtain ⟨m7, em7⟩ : ∃ x, x = qa_u m6 102 (((4 : Int32) * a1) + a2).toNatClampNeg a3 := ⟨_, rfl⟩
    obtain ⟨M, h, hM, es⟩ := qa_iastore (jn := (((4 : Int32) * a1) + a2).toNatClampNeg) (q := 72) (qa_e rfl h) rfl hM es rfl
    rw [← em7] at es
    replace h := qa_iload (n := 5) (q := 74) (qa_e rfl h) rfl g5
    have er := qa_ri (qa_e rfl h)
    subst er
    have e0 : ma_177_99 N a1 a2 a3 σ = ((m6 102 (((4 : Int32) * a1) + a2).toNatClampNeg), m7) := by exact Eq.trans (qa_ie em1) (Eq.trans (if_neg c4) (Eq.trans (qa_ie em6) (Eq.trans (qa_ie em7) (rfl))))
    rw [e0]
    exact ⟨rfl, hM, es⟩
/-- BuriedBySevensModel, kind, (III)I -/
noncomputable def ma_178_99 (N : Nat) (a1 : Int32) (a2 : Int32) (a3 : Int32) (σ : qa_S) : Int32 × qa_S :=
  qa_in (qa_u σ 99 9 (0 : Int32)) fun m1 =>
  if (if (ma_163_99 a1 m1) = (0 : Int32) then (-1 : Int32) else (if (ma_158 (a2).toInt64 (0 : Int64) (5 : Int64)) = (0 : Int32) then (-2 : Int32) else (ma_175 a3 (0 : Int32) (9 : Int32)))) < (0 : Int32) then
    qa_in ((ma_152_99 (if (ma_163_99 a1 m1) = (0 : Int32) then (-1 : Int32) else (if (ma_158 (a2).toInt64 (0 : Int64) (5 : Int64)) = (0 : Int32) then (-2 : Int32) else (ma_175 a3 (0 : Int32) (9 : Int32)))) m1)) fun r5 =>
    (r5.1, r5.2)
  else
    qa_in ((ma_176_99 N m1)) fun m6 =>
    qa_in (qa_u m6 100 a1.toNatClampNeg a2) fun m7 =>
    qa_in (qa_u m7 101 a1.toNatClampNeg a3) fun m8 =>
    ((((10 : Int32) * (m6 100 a1.toNatClampNeg)) + (m6 101 a1.toNatClampNeg)), m8)
theorem mb_178_99 {f N : Nat} (hN : f ≤ N) {M : q4_M} {r : Option Value × q4_M} {σ : qa_S} {a1 : Int32} {a2 : Int32} {a3 : Int32} (hM : qa_O M) (es : qa_s M = σ) (h : q4_run f 178 0 (lv_args 0 [.ref 99, .int (a1), .int (a2), .int (a3)]) [] M 0 0 = some r) : r.1 = some (.int ((ma_178_99 N a1 a2 a3 σ).1)) ∧ qa_O r.2 ∧ qa_s r.2 = (ma_178_99 N a1 a2 a3 σ).2 := by
  obtain ⟨lv, el⟩ : ∃ l, l = lv_args 0 [.ref 99, .int (a1), .int (a2), .int (a3)] := ⟨_, rfl⟩
  have g0 : q4_get lv 0 = some (.ref 99) := by rw [el]; rfl
  have g1 : q4_get lv 1 = some (.int (a1)) := by rw [el]; rfl
  have g2 : q4_get lv 2 = some (.int (a2)) := by rw [el]; rfl
  have g3 : q4_get lv 3 = some (.int (a3)) := by rw [el]; rfl
  rw [← el] at h
  clear el
  replace h := qa_aload (n := 0) (q := 1) (qa_e rfl h) rfl g0
  replace h := qa_push (z := (0 : Int32)) (q := 2) (qa_e rfl h) rfl (by decide)
  obtain ⟨m1, em1⟩ : ∃ x, x = qa_u σ 99 9 (0 : Int32) := ⟨_, rfl⟩
  obtain ⟨M, h, hM, es⟩ := qa_pf (j := 9) (q := 5) (qa_e rfl h) rfl hM es rfl (by decide)
  rw [← em1] at es
  replace h := qa_aload (n := 0) (q := 6) (qa_e rfl h) rfl g0
  replace h := qa_iload (n := 1) (q := 7) (qa_e rfl h) rfl g1
  obtain ⟨M, h, hM, es⟩ := qa_c1 (y := 163) (as := [.ref 99, .int (a1)]) (rest := []) (i := .invokevirtual 163) (q := 10) (qa_e rfl h) (Or.inl rfl) rfl rfl (by decide) rfl (fun r hc => mb_163_99 hM es hc)
  obtain ⟨lv, M, h, hM, es, g0, g1, g2, g3⟩ : ∃ lv M, q4_run f 178 41 lv [.int ((if (ma_163_99 a1 m1) = (0 : Int32) then (-1 : Int32) else (if (ma_158 (a2).toInt64 (0 : Int64) (5 : Int64)) = (0 : Int32) then (-2 : Int32) else (ma_175 a3 (0 : Int32) (9 : Int32)))))] M 0 0 = some r ∧ qa_O M ∧ qa_s M = m1 ∧ q4_get lv 0 = some (.ref 99) ∧ q4_get lv 1 = some (.int (a1)) ∧ q4_get lv 2 = some (.int (a2)) ∧ q4_get lv 3 = some (.int (a3)) := by
    by_cases c2 : (ma_163_99 a1 m1) = (0 : Int32)
    · replace h := qa_icf (q := 13) (qa_e rfl h) rfl (qa_F_ne c2)
      replace h := qa_push (z := (-1 : Int32)) (q := 14) (qa_e rfl h) rfl (by decide)
      replace h := qa_goto (q := 41) (qa_e rfl h) rfl
      exact ⟨lv, M, (qa_hi1 c2 h), hM, es, g0, g1, g2, g3⟩
    · replace h := qa_ict (q := 17) (qa_e rfl h) rfl (qa_T_ne c2)
      replace h := qa_iload (n := 2) (q := 18) (qa_e rfl h) rfl g2
      replace h := qa_i2l (q := 19) (qa_e rfl h) rfl
      replace h := qa_lpush (z := (0 : Int64)) (q := 20) (qa_e rfl h) rfl (by decide)
      replace h := qa_lpush (z := (5 : Int64)) (q := 23) (qa_e rfl h) rfl (by decide)
      obtain ⟨M, h, hM, es⟩ := qa_c1 (y := 158) (as := [.long ((a2).toInt64), .long ((0 : Int64)), .long ((5 : Int64))]) (rest := []) (i := .invokestatic 158) (q := 26) (qa_e rfl h) (Or.inr rfl) rfl rfl (by decide) rfl (fun r hc => mb_158 hM es hc)
      obtain ⟨lv, M, h, hM, es, g0, g1, g2, g3⟩ : ∃ lv M, q4_run f 178 41 lv [.int ((if (ma_158 (a2).toInt64 (0 : Int64) (5 : Int64)) = (0 : Int32) then (-2 : Int32) else (ma_175 a3 (0 : Int32) (9 : Int32))))] M 0 0 = some r ∧ qa_O M ∧ qa_s M = m1 ∧ q4_get lv 0 = some (.ref 99) ∧ q4_get lv 1 = some (.int (a1)) ∧ q4_get lv 2 = some (.int (a2)) ∧ q4_get lv 3 = some (.int (a3)) := by
        by_cases c3 : (ma_158 (a2).toInt64 (0 : Int64) (5 : Int64)) = (0 : Int32)
        · replace h := qa_icf (q := 29) (qa_e rfl h) rfl (qa_F_ne c3)
          replace h := qa_push (z := (-2 : Int32)) (q := 31) (qa_e rfl h) rfl (by decide)
          replace h := qa_goto (q := 41) (qa_e rfl h) rfl
          exact ⟨lv, M, (qa_hi1 c3 h), hM, es, g0, g1, g2, g3⟩
        · replace h := qa_ict (q := 34) (qa_e rfl h) rfl (qa_T_ne c3)
          replace h := qa_iload (n := 3) (q := 35) (qa_e rfl h) rfl g3
          replace h := qa_push (z := (0 : Int32)) (q := 36) (qa_e rfl h) rfl (by decide)
          replace h := qa_push (z := (9 : Int32)) (q := 38) (qa_e rfl h) rfl (by decide)
          obtain ⟨M, h, hM, es⟩ := qa_c1 (y := 175) (as := [.int (a3), .int ((0 : Int32)), .int ((9 : Int32))]) (rest := []) (i := .invokestatic 175) (q := 41) (qa_e rfl h) (Or.inr rfl) rfl rfl (by decide) rfl (fun r hc => mb_175 hM es hc)
          exact ⟨lv, M, (qa_hi0 c3 h), hM, es, g0, g1, g2, g3⟩
      exact ⟨lv, M, (qa_hi0 c2 h), hM, es, g0, g1, g2, g3⟩
  obtain ⟨lv, h, g, T⟩ := qa_istore (n := 4) (q := 43) (qa_e rfl h) rfl
  replace g0 := T _ _ g0 (by decide) (Or.inr rfl)
  replace g1 := T _ _ g1 (by decide) (Or.inr rfl)
  replace g2 := T _ _ g2 (by decide) (Or.inr rfl)
  replace g3 := T _ _ g3 (by decide) (Or.inr rfl)
  have g4 := g
  clear g T
  replace h := qa_iload (n := 4) (q := 45) (qa_e rfl h) rfl g4
  by_cases c4 : (if (ma_163_99 a1 m1) = (0 : Int32) then (-1 : Int32) else (if (ma_158 (a2).toInt64 (0 : Int64) (5 : Int64)) = (0 : Int32) then (-2 : Int32) else (ma_175 a3 (0 : Int32) (9 : Int32)))) < (0 : Int32)
  · replace h := qa_icf (q := 48) (qa_e rfl h) rfl (qa_F_ge c4)
    replace h := qa_aload (n := 0) (q := 49) (qa_e rfl h) rfl g0
    replace h := qa_iload (n := 4) (q := 51) (qa_e rfl h) rfl g4
    obtain ⟨r5, er5⟩ : ∃ x, x = (ma_152_99 (if (ma_163_99 a1 m1) = (0 : Int32) then (-1 : Int32) else (if (ma_158 (a2).toInt64 (0 : Int64) (5 : Int64)) = (0 : Int32) then (-2 : Int32) else (ma_175 a3 (0 : Int32) (9 : Int32)))) m1) := ⟨_, rfl⟩
    obtain ⟨M, h, hM, es⟩ := qa_c1 (y := 152) (as := [.ref 99, .int ((if (ma_163_99 a1 m1) = (0 : Int32) then (-1 : Int32) else (if (ma_158 (a2).toInt64 (0 : Int64) (5 : Int64)) = (0 : Int32) then (-2 : Int32) else (ma_175 a3 (0 : Int32) (9 : Int32)))))]) (rest := []) (i := .invokevirtual 152) (q := 54) (qa_e rfl h) (Or.inl rfl) rfl rfl (by decide) rfl (fun r hc => mb_152_99 hM es hc)
    rw [← er5] at h es
    have er := qa_ri (qa_e rfl h)
    subst er
    have e0 : ma_178_99 N a1 a2 a3 σ = (r5.1, r5.2) := by exact Eq.trans (qa_ie em1) (Eq.trans (if_pos c4) (Eq.trans (qa_ie er5) (rfl)))
    rw [e0]
    exact ⟨rfl, hM, es⟩
  · replace h := qa_ict (q := 55) (qa_e rfl h) rfl (qa_T_ge c4)
    replace h := qa_aload (n := 0) (q := 56) (qa_e rfl h) rfl g0
    obtain ⟨m6, em6⟩ : ∃ x, x = (ma_176_99 N m1) := ⟨_, rfl⟩
    obtain ⟨M, h, hM, es⟩ := qa_c0 (y := 176) (as := [.ref 99]) (rest := []) (i := .invokevirtual 176) (q := 59) (qa_e rfl h) (Or.inl rfl) rfl rfl (by decide) rfl (fun r hc => mb_176_99 hN hM es hc)
    rw [← em6] at es
    replace h := qa_push (z := (10 : Int32)) (q := 61) (qa_e rfl h) rfl (by decide)
    replace h := qa_aload (n := 0) (q := 62) (qa_e rfl h) rfl g0
    replace h := qa_gr (b := 100) (j := 1) (q := 65) (qa_e rfl h) rfl hM rfl (by decide)
    replace h := qa_iload (n := 1) (q := 66) (qa_e rfl h) rfl g1
    replace h := qa_iaload (jn := a1.toNatClampNeg) (q := 67) (qa_e rfl h) rfl hM es rfl
    replace h := qa_imul (q := 68) (qa_e rfl h) rfl
    replace h := qa_aload (n := 0) (q := 69) (qa_e rfl h) rfl g0
    replace h := qa_gr (b := 101) (j := 2) (q := 72) (qa_e rfl h) rfl hM rfl (by decide)
    replace h := qa_iload (n := 1) (q := 73) (qa_e rfl h) rfl g1
    replace h := qa_iaload (jn := a1.toNatClampNeg) (q := 74) (qa_e rfl h) rfl hM es rfl
    replace h := qa_iadd (q := 75) (qa_e rfl h) rfl
    obtain ⟨lv, h, g, T⟩ := qa_istore (n := 5) (q := 77) (qa_e rfl h) rfl
    replace g0 := T _ _ g0 (by decide) (Or.inr rfl)
    replace g1 := T _ _ g1 (by decide) (Or.inr rfl)
    replace g2 := T _ _ g2 (by decide) (Or.inr rfl)
    replace g3 := T _ _ g3 (by decide) (Or.inr rfl)
    have g5 := g
    clear g T
    replace h := qa_aload (n := 0) (q := 78) (qa_e rfl h) rfl g0
    replace h := qa_gr (b := 100) (j := 1) (q := 81) (qa_e rfl h) rfl hM rfl (by decide)
    replace h := qa_iload (n := 1) (q := 82) (qa_e rfl h) rfl g1
    replace h := qa_iload (n := 2) (q := 83) (qa_e rfl h) rfl g2
    obtain ⟨m7, em7⟩ : ∃ x, x = qa_u m6 100 a1.toNatClampNeg a2 := ⟨_, rfl⟩
    obtain ⟨M, h, hM, es⟩ := qa_iastore (jn := a1.toNatClampNeg) (q := 84) (qa_e rfl h) rfl hM es rfl
    rw [← em7] at es
    replace h := qa_aload (n := 0) (q := 85) (qa_e rfl h) rfl g0
    replace h := qa_gr (b := 101) (j := 2) (q := 88) (qa_e rfl h) rfl hM rfl (by decide)
    replace h := qa_iload (n := 1) (q := 89) (qa_e rfl h) rfl g1
    replace h := qa_iload (n := 3) (q := 90) (qa_e rfl h) rfl g3
    obtain ⟨m8, em8⟩ : ∃ x, x = qa_u m7 101 a1.toNatClampNeg a3 := ⟨_, rfl⟩
    obtain ⟨M, h, hM, es⟩ := qa_iastore (jn := a1.toNatClampNeg) (q := 91) (qa_e rfl h) rfl hM es rfl
    rw [← em8] at es
    replace h := qa_iload (n := 5) (q := 93) (qa_e rfl h) rfl g5
    have er := qa_ri (qa_e rfl h)
    subst er
    have e0 : ma_178_99 N a1 a2 a3 σ = ((((10 : Int32) * (m6 100 a1.toNatClampNeg)) + (m6 101 a1.toNatClampNeg)), m8) := by exact Eq.trans (qa_ie em1) (Eq.trans (if_neg c4) (Eq.trans (qa_ie em6) (Eq.trans (qa_ie em7) (Eq.trans (qa_ie em8) (rfl)))))
    rw [e0]
    exact ⟨rfl, hM, es⟩
/-- BuriedBySevensModel, tasteBy, (II)I -/
noncomputable def ma_182_99 (a1 : Int32) (a2 : Int32) (σ : qa_S) : Int32 :=
  if (σ 100 a1.toNatClampNeg) = (1 : Int32) then
    (((3 : Int32) * (σ 102 (((4 : Int32) * a1) + a2).toNatClampNeg)) + (σ 101 a1.toNatClampNeg))
  else
    if (σ 100 a1.toNatClampNeg) = (2 : Int32) then
      (((3 : Int32) * (σ 102 (((4 : Int32) * a1) + a2).toNatClampNeg)) / (2 : Int32))
    else
      if (σ 100 a1.toNatClampNeg) = (3 : Int32) then
        ((2 : Int32) * (((3 : Int32) * (σ 102 (((4 : Int32) * a1) + a2).toNatClampNeg)) + (σ 101 a1.toNatClampNeg)))
      else
        if (σ 100 a1.toNatClampNeg) = (4 : Int32) then
          (0 : Int32)
        else
          if (σ 100 a1.toNatClampNeg) = (5 : Int32) then
            (if a1 = (0 : Int32) then ((3 : Int32) * (σ 102 (((4 : Int32) * a1) + a2).toNatClampNeg)) else ((((3 : Int32) * (σ 102 (((4 : Int32) * a1) + a2).toNatClampNeg)) + (σ 108 ((((4 : Int32) * a1) - (4 : Int32)) + a2).toNatClampNeg)) / (2 : Int32)))
          else
            ((3 : Int32) * (σ 102 (((4 : Int32) * a1) + a2).toNatClampNeg))
theorem mb_182_99 {f : Nat} {M : q4_M} {r : Option Value × q4_M} {σ : qa_S} {a1 : Int32} {a2 : Int32} (hM : qa_O M) (es : qa_s M = σ) (h : q4_run f 182 0 (lv_args 0 [.ref 99, .int (a1), .int (a2)]) [] M 0 0 = some r) : r.1 = some (.int ((ma_182_99 a1 a2 σ))) ∧ qa_O r.2 ∧ qa_s r.2 = σ := by
  obtain ⟨lv, el⟩ : ∃ l, l = lv_args 0 [.ref 99, .int (a1), .int (a2)] := ⟨_, rfl⟩
  have g0 : q4_get lv 0 = some (.ref 99) := by rw [el]; rfl
  have g1 : q4_get lv 1 = some (.int (a1)) := by rw [el]; rfl
  have g2 : q4_get lv 2 = some (.int (a2)) := by rw [el]; rfl
  rw [← el] at h
  clear el
  replace h := qa_push (z := (3 : Int32)) (q := 1) (qa_e rfl h) rfl (by decide)
  replace h := qa_aload (n := 0) (q := 2) (qa_e rfl h) rfl g0
  replace h := qa_gr (b := 102) (j := 3) (q := 5) (qa_e rfl h) rfl hM rfl (by decide)
  replace h := qa_push (z := (4 : Int32)) (q := 6) (qa_e rfl h) rfl (by decide)
  replace h := qa_iload (n := 1) (q := 7) (qa_e rfl h) rfl g1
  replace h := qa_imul (q := 8) (qa_e rfl h) rfl
  replace h := qa_iload (n := 2) (q := 9) (qa_e rfl h) rfl g2
  replace h := qa_iadd (q := 10) (qa_e rfl h) rfl
  replace h := qa_iaload (jn := (((4 : Int32) * a1) + a2).toNatClampNeg) (q := 11) (qa_e rfl h) rfl hM es rfl
  replace h := qa_imul (q := 12) (qa_e rfl h) rfl
  obtain ⟨lv, h, g, T⟩ := qa_istore (n := 3) (q := 13) (qa_e rfl h) rfl
  replace g0 := T _ _ g0 (by decide) (Or.inr rfl)
  replace g1 := T _ _ g1 (by decide) (Or.inr rfl)
  replace g2 := T _ _ g2 (by decide) (Or.inr rfl)
  have g3 := g
  clear g T
  replace h := qa_aload (n := 0) (q := 14) (qa_e rfl h) rfl g0
  replace h := qa_gr (b := 100) (j := 1) (q := 17) (qa_e rfl h) rfl hM rfl (by decide)
  replace h := qa_iload (n := 1) (q := 18) (qa_e rfl h) rfl g1
  replace h := qa_iaload (jn := a1.toNatClampNeg) (q := 19) (qa_e rfl h) rfl hM es rfl
  by_cases c1 : (σ 100 a1.toNatClampNeg) = (1 : Int32)
  · replace h := qa_ts (v := 1) (T := 52) (q := 52) (qa_e rfl h) (qa_sp c1 (by decide)).symm (by decide) rfl rfl
    replace h := qa_iload (n := 3) (q := 53) (qa_e rfl h) rfl g3
    replace h := qa_aload (n := 0) (q := 54) (qa_e rfl h) rfl g0
    replace h := qa_gr (b := 101) (j := 2) (q := 57) (qa_e rfl h) rfl hM rfl (by decide)
    replace h := qa_iload (n := 1) (q := 58) (qa_e rfl h) rfl g1
    replace h := qa_iaload (jn := a1.toNatClampNeg) (q := 59) (qa_e rfl h) rfl hM es rfl
    replace h := qa_iadd (q := 60) (qa_e rfl h) rfl
    have er := qa_ri (qa_e rfl h)
    subst er
    have e0 : ma_182_99 a1 a2 σ = (((3 : Int32) * (σ 102 (((4 : Int32) * a1) + a2).toNatClampNeg)) + (σ 101 a1.toNatClampNeg)) := by exact Eq.trans (if_pos c1) (rfl)
    rw [e0]
    exact ⟨rfl, hM, es⟩
  · by_cases c2 : (σ 100 a1.toNatClampNeg) = (2 : Int32)
    · replace h := qa_ts (v := 2) (T := 61) (q := 61) (qa_e rfl h) (qa_sp c2 (by decide)).symm (by decide) rfl rfl
      replace h := qa_iload (n := 3) (q := 62) (qa_e rfl h) rfl g3
      replace h := qa_push (z := (2 : Int32)) (q := 63) (qa_e rfl h) rfl (by decide)
      replace h := qa_idiv (q := 64) (qa_e rfl h) rfl
      have er := qa_ri (qa_e rfl h)
      subst er
      have e0 : ma_182_99 a1 a2 σ = (((3 : Int32) * (σ 102 (((4 : Int32) * a1) + a2).toNatClampNeg)) / (2 : Int32)) := by exact Eq.trans (if_neg c1) (Eq.trans (if_pos c2) (rfl))
      rw [e0]
      exact ⟨rfl, hM, es⟩
    · by_cases c3 : (σ 100 a1.toNatClampNeg) = (3 : Int32)
      · replace h := qa_ts (v := 3) (T := 65) (q := 65) (qa_e rfl h) (qa_sp c3 (by decide)).symm (by decide) rfl rfl
        replace h := qa_push (z := (2 : Int32)) (q := 66) (qa_e rfl h) rfl (by decide)
        replace h := qa_iload (n := 3) (q := 67) (qa_e rfl h) rfl g3
        replace h := qa_aload (n := 0) (q := 68) (qa_e rfl h) rfl g0
        replace h := qa_gr (b := 101) (j := 2) (q := 71) (qa_e rfl h) rfl hM rfl (by decide)
        replace h := qa_iload (n := 1) (q := 72) (qa_e rfl h) rfl g1
        replace h := qa_iaload (jn := a1.toNatClampNeg) (q := 73) (qa_e rfl h) rfl hM es rfl
        replace h := qa_iadd (q := 74) (qa_e rfl h) rfl
        replace h := qa_imul (q := 75) (qa_e rfl h) rfl
        have er := qa_ri (qa_e rfl h)
        subst er
        have e0 : ma_182_99 a1 a2 σ = ((2 : Int32) * (((3 : Int32) * (σ 102 (((4 : Int32) * a1) + a2).toNatClampNeg)) + (σ 101 a1.toNatClampNeg))) := by exact Eq.trans (if_neg c1) (Eq.trans (if_neg c2) (Eq.trans (if_pos c3) (rfl)))
        rw [e0]
        exact ⟨rfl, hM, es⟩
      · by_cases c4 : (σ 100 a1.toNatClampNeg) = (4 : Int32)
        · replace h := qa_ts (v := 4) (T := 76) (q := 76) (qa_e rfl h) (qa_sp c4 (by decide)).symm (by decide) rfl rfl
          replace h := qa_push (z := (0 : Int32)) (q := 77) (qa_e rfl h) rfl (by decide)
          have er := qa_ri (qa_e rfl h)
          subst er
          have e0 : ma_182_99 a1 a2 σ = (0 : Int32) := by exact Eq.trans (if_neg c1) (Eq.trans (if_neg c2) (Eq.trans (if_neg c3) (Eq.trans (if_pos c4) (rfl))))
          rw [e0]
          exact ⟨rfl, hM, es⟩
        · by_cases c5 : (σ 100 a1.toNatClampNeg) = (5 : Int32)
          · replace h := qa_ts (v := 5) (T := 78) (q := 78) (qa_e rfl h) (qa_sp c5 (by decide)).symm (by decide) rfl rfl
            replace h := qa_iload (n := 1) (q := 79) (qa_e rfl h) rfl g1
            obtain ⟨lv, M, h, hM, es⟩ : ∃ lv M, q4_run f 182 102 lv [.int ((if a1 = (0 : Int32) then ((3 : Int32) * (σ 102 (((4 : Int32) * a1) + a2).toNatClampNeg)) else ((((3 : Int32) * (σ 102 (((4 : Int32) * a1) + a2).toNatClampNeg)) + (σ 108 ((((4 : Int32) * a1) - (4 : Int32)) + a2).toNatClampNeg)) / (2 : Int32))))] M 0 0 = some r ∧ qa_O M ∧ qa_s M = σ := by
              by_cases c6 : a1 = (0 : Int32)
              · replace h := qa_icf (q := 82) (qa_e rfl h) rfl (qa_F_ne c6)
                replace h := qa_iload (n := 3) (q := 83) (qa_e rfl h) rfl g3
                replace h := qa_goto (q := 102) (qa_e rfl h) rfl
                exact ⟨lv, M, (qa_hi1 c6 h), hM, es⟩
              · replace h := qa_ict (q := 86) (qa_e rfl h) rfl (qa_T_ne c6)
                replace h := qa_iload (n := 3) (q := 87) (qa_e rfl h) rfl g3
                replace h := qa_aload (n := 0) (q := 88) (qa_e rfl h) rfl g0
                replace h := qa_gr (b := 108) (j := 11) (q := 91) (qa_e rfl h) rfl hM rfl (by decide)
                replace h := qa_push (z := (4 : Int32)) (q := 92) (qa_e rfl h) rfl (by decide)
                replace h := qa_iload (n := 1) (q := 93) (qa_e rfl h) rfl g1
                replace h := qa_imul (q := 94) (qa_e rfl h) rfl
                replace h := qa_push (z := (4 : Int32)) (q := 95) (qa_e rfl h) rfl (by decide)
                replace h := qa_isub (q := 96) (qa_e rfl h) rfl
                replace h := qa_iload (n := 2) (q := 97) (qa_e rfl h) rfl g2
                replace h := qa_iadd (q := 98) (qa_e rfl h) rfl
                replace h := qa_iaload (jn := ((((4 : Int32) * a1) - (4 : Int32)) + a2).toNatClampNeg) (q := 99) (qa_e rfl h) rfl hM es rfl
                replace h := qa_iadd (q := 100) (qa_e rfl h) rfl
                replace h := qa_push (z := (2 : Int32)) (q := 101) (qa_e rfl h) rfl (by decide)
                replace h := qa_idiv (q := 102) (qa_e rfl h) rfl
                exact ⟨lv, M, (qa_hi0 c6 h), hM, es⟩
            have er := qa_ri (qa_e rfl h)
            subst er
            have e0 : ma_182_99 a1 a2 σ = (if a1 = (0 : Int32) then ((3 : Int32) * (σ 102 (((4 : Int32) * a1) + a2).toNatClampNeg)) else ((((3 : Int32) * (σ 102 (((4 : Int32) * a1) + a2).toNatClampNeg)) + (σ 108 ((((4 : Int32) * a1) - (4 : Int32)) + a2).toNatClampNeg)) / (2 : Int32))) := by exact Eq.trans (if_neg c1) (Eq.trans (if_neg c2) (Eq.trans (if_neg c3) (Eq.trans (if_neg c4) (Eq.trans (if_pos c5) (rfl)))))
            rw [e0]
            exact ⟨rfl, hM, es⟩
          · replace h := qa_tsd (q := 103) (qa_e rfl h) (by have n0 := qa_sn (v := 1) c1 (by decide); have n1 := qa_sn (v := 2) c2 (by decide); have n2 := qa_sn (v := 3) c3 (by decide); have n3 := qa_sn (v := 4) c4 (by decide); have n4 := qa_sn (v := 5) c5 (by decide); omega) rfl
            replace h := qa_iload (n := 3) (q := 104) (qa_e rfl h) rfl g3
            have er := qa_ri (qa_e rfl h)
            subst er
            have e0 : ma_182_99 a1 a2 σ = ((3 : Int32) * (σ 102 (((4 : Int32) * a1) + a2).toNatClampNeg)) := by exact Eq.trans (if_neg c1) (Eq.trans (if_neg c2) (Eq.trans (if_neg c3) (Eq.trans (if_neg c4) (Eq.trans (if_neg c5) (rfl)))))
            rw [e0]
            exact ⟨rfl, hM, es⟩
noncomputable def mc_181_99_p12 (N : Nat) (l1 : Int32) (s : Int32 × qa_S) : (Int32 × qa_S) ⊕ (Int32 × qa_S) :=
  if s.1 < (4 : Int32) then
    qa_in (qa_u s.2 108 (((4 : Int32) * l1) + s.1).toNatClampNeg (ma_182_99 l1 s.1 s.2)) fun m2 =>
    .inl ((s.1 + (1 : Int32)), m2)
  else
    .inr (s.1, s.2)
theorem md_181_99_p12 {N F : Nat} {r : Option Value × q4_M} {l1 : Int32} (hN : F ≤ N) : ∀ f n, f ≤ n → f ≤ F → ∀ (s : Int32 × qa_S) (lv : List (Nat × Value)) (M : q4_M), qa_O M → qa_s M = s.2 → q4_get lv 0 = some (.ref 99) → q4_get lv 1 = some (.int (l1)) → q4_get lv 2 = some (.int (s.1)) → q4_run f 181 12 lv [] M 0 0 = some r → ∃ lv M, q4_run F 181 39 lv [] M 0 0 = some r ∧ qa_O M ∧ qa_s M = (qa_wh (fun s => s) (mc_181_99_p12 N l1) n s).2 ∧ q4_get lv 0 = some (.ref 99) ∧ q4_get lv 1 = some (.int (l1)) := by
  intro f
  induction f with
  | zero => intro n _ _ s lv M hM es _ _ _ h; cases h
  | succ f ih =>
    intro n hn hF s lv M hM es g0 g1 g2 h
    obtain ⟨n, rfl⟩ : ∃ n1, n = n1 + 1 := ⟨n - 1, by omega⟩
    replace hn : f ≤ n := Nat.le_of_succ_le_succ hn
    have hN := Nat.le_trans (Nat.le_of_succ_le hF) hN
    replace h := qa_iload (n := 2) (q := 13) (qa_d rfl h) rfl g2
    replace h := qa_push (z := (4 : Int32)) (q := 14) (qa_e rfl h) rfl (by decide)
    by_cases c1 : s.1 < (4 : Int32)
    · replace h := qa_iff (q := 17) (qa_e rfl h) rfl (qa_F_ge c1)
      replace h := qa_aload (n := 0) (q := 18) (qa_e rfl h) rfl g0
      replace h := qa_gr (b := 108) (j := 11) (q := 21) (qa_e rfl h) rfl hM rfl (by decide)
      replace h := qa_push (z := (4 : Int32)) (q := 22) (qa_e rfl h) rfl (by decide)
      replace h := qa_iload (n := 1) (q := 23) (qa_e rfl h) rfl g1
      replace h := qa_imul (q := 24) (qa_e rfl h) rfl
      replace h := qa_iload (n := 2) (q := 25) (qa_e rfl h) rfl g2
      replace h := qa_iadd (q := 26) (qa_e rfl h) rfl
      replace h := qa_aload (n := 0) (q := 27) (qa_e rfl h) rfl g0
      replace h := qa_iload (n := 1) (q := 28) (qa_e rfl h) rfl g1
      replace h := qa_iload (n := 2) (q := 29) (qa_e rfl h) rfl g2
      obtain ⟨M, h, hM, es⟩ := qa_c1 (y := 182) (as := [.ref 99, .int (l1), .int (s.1)]) (rest := [.int ((((4 : Int32) * l1) + s.1)), .ref 108]) (i := .invokevirtual 182) (q := 32) (qa_e rfl h) (Or.inl rfl) rfl rfl (by decide) rfl (fun r hc => mb_182_99 hM es hc)
      obtain ⟨m2, em2⟩ : ∃ x, x = qa_u s.2 108 (((4 : Int32) * l1) + s.1).toNatClampNeg (ma_182_99 l1 s.1 s.2) := ⟨_, rfl⟩
      obtain ⟨M, h, hM, es⟩ := qa_iastore (jn := (((4 : Int32) * l1) + s.1).toNatClampNeg) (q := 33) (qa_e rfl h) rfl hM es rfl
      rw [← em2] at es
      obtain ⟨lv, h, g, T⟩ := qa_iinc (n := 2) (z := (1 : Int32)) (q := 36) (qa_e rfl h) rfl (by decide) g2
      replace g0 := T _ _ g0 (by decide) (Or.inr rfl)
      replace g1 := T _ _ g1 (by decide) (Or.inr rfl)
      replace g2 := g
      clear g T
      replace h := qa_goto (q := 12) (qa_e rfl h) rfl
      have e0 : mc_181_99_p12 N l1 s = .inl ((s.1 + (1 : Int32)), m2) := by exact Eq.trans (if_pos c1) (Eq.trans (qa_ie em2) (rfl))
      rw [qa_whl e0]
      exact ih n hn (Nat.le_of_succ_le hF) ((s.1 + (1 : Int32)), m2) _ _ hM es g0 g1 g2 h
    · replace h := qa_ift (q := 39) (qa_e rfl h) rfl (qa_T_ge c1)
      have e0 : mc_181_99_p12 N l1 s = .inr (s.1, s.2) := by exact Eq.trans (if_neg c1) (rfl)
      rw [qa_whr e0]
      exact ⟨_, _, q61_mono f F _ _ _ _ _ _ _ _ (Nat.le_of_succ_le hF) h, hM, es, g0, g1⟩
noncomputable def mc_181_99_p2 (N : Nat) (s : Int32 × qa_S) : (Int32 × qa_S) ⊕ (Int32 × qa_S) :=
  if s.1 < (s.2 99 0) then
    qa_in ((qa_wh (fun s => s) (mc_181_99_p12 N s.1) N ((0 : Int32), s.2))) fun r2 =>
    .inl ((s.1 + (1 : Int32)), r2.2)
  else
    .inr (s.1, s.2)
theorem md_181_99_p2 {N F : Nat} {r : Option Value × q4_M} (hN : F ≤ N) : ∀ f n, f ≤ n → f ≤ F → ∀ (s : Int32 × qa_S) (lv : List (Nat × Value)) (M : q4_M), qa_O M → qa_s M = s.2 → q4_get lv 0 = some (.ref 99) → q4_get lv 1 = some (.int (s.1)) → q4_run f 181 2 lv [] M 0 0 = some r → ∃ lv M, q4_run F 181 45 lv [] M 0 0 = some r ∧ qa_O M ∧ qa_s M = (qa_wh (fun s => s) (mc_181_99_p2 N) n s).2 := by
  intro f
  induction f with
  | zero => intro n _ _ s lv M hM es _ _ h; cases h
  | succ f ih =>
    intro n hn hF s lv M hM es g0 g1 h
    obtain ⟨n, rfl⟩ : ∃ n1, n = n1 + 1 := ⟨n - 1, by omega⟩
    replace hn : f ≤ n := Nat.le_of_succ_le_succ hn
    have hN := Nat.le_trans (Nat.le_of_succ_le hF) hN
    replace h := qa_iload (n := 1) (q := 3) (qa_d rfl h) rfl g1
    replace h := qa_aload (n := 0) (q := 4) (qa_e rfl h) rfl g0
    replace h := qa_gi (j := 0) (q := 7) (qa_e rfl h) rfl hM es rfl (by decide)
    by_cases c1 : s.1 < (s.2 99 0)
    · replace h := qa_iff (q := 10) (qa_e rfl h) rfl (qa_F_ge c1)
      replace h := qa_push (z := (0 : Int32)) (q := 11) (qa_e rfl h) rfl (by decide)
      obtain ⟨lv, h, g, T⟩ := qa_istore (n := 2) (q := 12) (qa_e rfl h) rfl
      replace g0 := T _ _ g0 (by decide) (Or.inr rfl)
      replace g1 := T _ _ g1 (by decide) (Or.inr rfl)
      have g2 := g
      clear g T
      obtain ⟨r2, er2⟩ : ∃ x, x = (qa_wh (fun s => s) (mc_181_99_p12 N s.1) N ((0 : Int32), s.2)) := ⟨_, rfl⟩
      have L := md_181_99_p12 (l1 := s.1) (F := f) (N := N) (r := r) hN f N hN (Nat.le_refl f) ((0 : Int32), s.2) _ _ hM es g0 g1 g2 h
      rw [← er2] at L
      obtain ⟨lv, M, h, hM, es, g0, g1⟩ := L
      obtain ⟨lv, h, g, T⟩ := qa_iinc (n := 1) (z := (1 : Int32)) (q := 42) (qa_e rfl h) rfl (by decide) g1
      replace g0 := T _ _ g0 (by decide) (Or.inr rfl)
      replace g1 := g
      clear g T
      replace h := qa_goto (q := 2) (qa_e rfl h) rfl
      have e0 : mc_181_99_p2 N s = .inl ((s.1 + (1 : Int32)), r2.2) := by exact Eq.trans (if_pos c1) (Eq.trans (qa_ie er2) (rfl))
      rw [qa_whl e0]
      exact ih n hn (Nat.le_of_succ_le hF) ((s.1 + (1 : Int32)), r2.2) _ _ hM es g0 g1 h
    · replace h := qa_ift (q := 45) (qa_e rfl h) rfl (qa_T_ge c1)
      have e0 : mc_181_99_p2 N s = .inr (s.1, s.2) := by exact Eq.trans (if_neg c1) (rfl)
      rw [qa_whr e0]
      exact ⟨_, _, q61_mono f F _ _ _ _ _ _ _ _ (Nat.le_of_succ_le hF) h, hM, es⟩
/-- BuriedBySevensModel, layTastes, ()V -/
noncomputable def ma_181_99 (N : Nat) (σ : qa_S) : qa_S :=
  qa_in ((qa_wh (fun s => s) (mc_181_99_p2 N) N ((0 : Int32), σ))) fun r1 =>
  r1.2
theorem mb_181_99 {f N : Nat} (hN : f ≤ N) {M : q4_M} {r : Option Value × q4_M} {σ : qa_S} (hM : qa_O M) (es : qa_s M = σ) (h : q4_run f 181 0 (lv_args 0 [.ref 99]) [] M 0 0 = some r) : r.1 = none ∧ qa_O r.2 ∧ qa_s r.2 = (ma_181_99 N σ) := by
  obtain ⟨lv, el⟩ : ∃ l, l = lv_args 0 [.ref 99] := ⟨_, rfl⟩
  have g0 : q4_get lv 0 = some (.ref 99) := by rw [el]; rfl
  rw [← el] at h
  clear el
  replace h := qa_push (z := (0 : Int32)) (q := 1) (qa_e rfl h) rfl (by decide)
  obtain ⟨lv, h, g, T⟩ := qa_istore (n := 1) (q := 2) (qa_e rfl h) rfl
  replace g0 := T _ _ g0 (by decide) (Or.inr rfl)
  have g1 := g
  clear g T
  obtain ⟨r1, er1⟩ : ∃ x, x = (qa_wh (fun s => s) (mc_181_99_p2 N) N ((0 : Int32), σ)) := ⟨_, rfl⟩
  have L := md_181_99_p2 (F := f) (N := N) (r := r) hN f N hN (Nat.le_refl f) ((0 : Int32), σ) _ _ hM es g0 g1 h
  rw [← er1] at L
  obtain ⟨lv, M, h, hM, es⟩ := L
  have er := qa_rv (qa_e rfl h)
  subst er
  have e0 : ma_181_99 N σ = r1.2 := by exact Eq.trans (qa_ie er1) (rfl)
  rw [e0]
  exact ⟨rfl, hM, es⟩
noncomputable def mc_180_99_p6 (N : Nat) (s : Int32 × qa_S) : (Int32 × qa_S) ⊕ (Int32 × qa_S) :=
  if s.1 < (s.2 99 0) then
    qa_in (qa_u s.2 110 s.1.toNatClampNeg (s.2 103 s.1.toNatClampNeg)) fun m2 =>
    .inl ((s.1 + (1 : Int32)), m2)
  else
    .inr (s.1, s.2)
theorem md_180_99_p6 {N F : Nat} {r : Option Value × q4_M} (hN : F ≤ N) : ∀ f n, f ≤ n → f ≤ F → ∀ (s : Int32 × qa_S) (lv : List (Nat × Value)) (M : q4_M), qa_O M → qa_s M = s.2 → q4_get lv 0 = some (.ref 99) → q4_get lv 1 = some (.int (s.1)) → q4_run f 180 6 lv [] M 0 0 = some r → ∃ lv M, q4_run F 180 32 lv [] M 0 0 = some r ∧ qa_O M ∧ qa_s M = (qa_wh (fun s => s) (mc_180_99_p6 N) n s).2 ∧ q4_get lv 0 = some (.ref 99) := by
  intro f
  induction f with
  | zero => intro n _ _ s lv M hM es _ _ h; cases h
  | succ f ih =>
    intro n hn hF s lv M hM es g0 g1 h
    obtain ⟨n, rfl⟩ : ∃ n1, n = n1 + 1 := ⟨n - 1, by omega⟩
    replace hn : f ≤ n := Nat.le_of_succ_le_succ hn
    have hN := Nat.le_trans (Nat.le_of_succ_le hF) hN
    replace h := qa_iload (n := 1) (q := 7) (qa_d rfl h) rfl g1
    replace h := qa_aload (n := 0) (q := 8) (qa_e rfl h) rfl g0
    replace h := qa_gi (j := 0) (q := 11) (qa_e rfl h) rfl hM es rfl (by decide)
    by_cases c1 : s.1 < (s.2 99 0)
    · replace h := qa_iff (q := 14) (qa_e rfl h) rfl (qa_F_ge c1)
      replace h := qa_aload (n := 0) (q := 15) (qa_e rfl h) rfl g0
      replace h := qa_gr (b := 110) (j := 13) (q := 18) (qa_e rfl h) rfl hM rfl (by decide)
      replace h := qa_iload (n := 1) (q := 19) (qa_e rfl h) rfl g1
      replace h := qa_aload (n := 0) (q := 20) (qa_e rfl h) rfl g0
      replace h := qa_gr (b := 103) (j := 4) (q := 23) (qa_e rfl h) rfl hM rfl (by decide)
      replace h := qa_iload (n := 1) (q := 24) (qa_e rfl h) rfl g1
      replace h := qa_iaload (jn := s.1.toNatClampNeg) (q := 25) (qa_e rfl h) rfl hM es rfl
      obtain ⟨m2, em2⟩ : ∃ x, x = qa_u s.2 110 s.1.toNatClampNeg (s.2 103 s.1.toNatClampNeg) := ⟨_, rfl⟩
      obtain ⟨M, h, hM, es⟩ := qa_iastore (jn := s.1.toNatClampNeg) (q := 26) (qa_e rfl h) rfl hM es rfl
      rw [← em2] at es
      obtain ⟨lv, h, g, T⟩ := qa_iinc (n := 1) (z := (1 : Int32)) (q := 29) (qa_e rfl h) rfl (by decide) g1
      replace g0 := T _ _ g0 (by decide) (Or.inr rfl)
      replace g1 := g
      clear g T
      replace h := qa_goto (q := 6) (qa_e rfl h) rfl
      have e0 : mc_180_99_p6 N s = .inl ((s.1 + (1 : Int32)), m2) := by exact Eq.trans (if_pos c1) (Eq.trans (qa_ie em2) (rfl))
      rw [qa_whl e0]
      exact ih n hn (Nat.le_of_succ_le hF) ((s.1 + (1 : Int32)), m2) _ _ hM es g0 g1 h
    · replace h := qa_ift (q := 32) (qa_e rfl h) rfl (qa_T_ge c1)
      have e0 : mc_180_99_p6 N s = .inr (s.1, s.2) := by exact Eq.trans (if_neg c1) (rfl)
      rw [qa_whr e0]
      exact ⟨_, _, q61_mono f F _ _ _ _ _ _ _ _ (Nat.le_of_succ_le hF) h, hM, es, g0⟩
noncomputable def mc_183_99_p4 (N : Nat) (σ : qa_S) (s : Int32 × Int32) : (Int32 × Int32) ⊕ (Int32 × Int32) :=
  if s.1 < (σ 99 0) then
    .inl ((s.1 + (1 : Int32)), (s.2 + (σ 110 s.1.toNatClampNeg)))
  else
    .inr (s.1, s.2)
theorem md_183_99_p4 {N F : Nat} {r : Option Value × q4_M} {σ : qa_S} (hN : F ≤ N) : ∀ f n, f ≤ n → f ≤ F → ∀ (s : Int32 × Int32) (lv : List (Nat × Value)) (M : q4_M), qa_O M → qa_s M = σ → q4_get lv 0 = some (.ref 99) → q4_get lv 1 = some (.int (s.2)) → q4_get lv 2 = some (.int (s.1)) → q4_run f 183 4 lv [] M 0 0 = some r → ∃ lv M, q4_run F 183 27 lv [] M 0 0 = some r ∧ qa_O M ∧ qa_s M = σ ∧ q4_get lv 0 = some (.ref 99) ∧ q4_get lv 1 = some (.int ((qa_wh (fun s => s) (mc_183_99_p4 N σ) n s).2)) := by
  intro f
  induction f with
  | zero => intro n _ _ s lv M hM es _ _ _ h; cases h
  | succ f ih =>
    intro n hn hF s lv M hM es g0 g1 g2 h
    obtain ⟨n, rfl⟩ : ∃ n1, n = n1 + 1 := ⟨n - 1, by omega⟩
    replace hn : f ≤ n := Nat.le_of_succ_le_succ hn
    have hN := Nat.le_trans (Nat.le_of_succ_le hF) hN
    replace h := qa_iload (n := 2) (q := 5) (qa_d rfl h) rfl g2
    replace h := qa_aload (n := 0) (q := 6) (qa_e rfl h) rfl g0
    replace h := qa_gi (j := 0) (q := 9) (qa_e rfl h) rfl hM es rfl (by decide)
    by_cases c1 : s.1 < (σ 99 0)
    · replace h := qa_iff (q := 12) (qa_e rfl h) rfl (qa_F_ge c1)
      replace h := qa_iload (n := 1) (q := 13) (qa_e rfl h) rfl g1
      replace h := qa_aload (n := 0) (q := 14) (qa_e rfl h) rfl g0
      replace h := qa_gr (b := 110) (j := 13) (q := 17) (qa_e rfl h) rfl hM rfl (by decide)
      replace h := qa_iload (n := 2) (q := 18) (qa_e rfl h) rfl g2
      replace h := qa_iaload (jn := s.1.toNatClampNeg) (q := 19) (qa_e rfl h) rfl hM es rfl
      replace h := qa_iadd (q := 20) (qa_e rfl h) rfl
      obtain ⟨lv, h, g, T⟩ := qa_istore (n := 1) (q := 21) (qa_e rfl h) rfl
      replace g0 := T _ _ g0 (by decide) (Or.inr rfl)
      replace g2 := T _ _ g2 (by decide) (Or.inr rfl)
      have g1 := g
      clear g T
      obtain ⟨lv, h, g, T⟩ := qa_iinc (n := 2) (z := (1 : Int32)) (q := 24) (qa_e rfl h) rfl (by decide) g2
      replace g0 := T _ _ g0 (by decide) (Or.inr rfl)
      replace g1 := T _ _ g1 (by decide) (Or.inr rfl)
      replace g2 := g
      clear g T
      replace h := qa_goto (q := 4) (qa_e rfl h) rfl
      have e0 : mc_183_99_p4 N σ s = .inl ((s.1 + (1 : Int32)), (s.2 + (σ 110 s.1.toNatClampNeg))) := by exact Eq.trans (if_pos c1) (rfl)
      rw [qa_whl e0]
      exact ih n hn (Nat.le_of_succ_le hF) ((s.1 + (1 : Int32)), (s.2 + (σ 110 s.1.toNatClampNeg))) _ _ hM es g0 g1 g2 h
    · replace h := qa_ift (q := 27) (qa_e rfl h) rfl (qa_T_ge c1)
      have e0 : mc_183_99_p4 N σ s = .inr (s.1, s.2) := by exact Eq.trans (if_neg c1) (rfl)
      rw [qa_whr e0]
      exact ⟨_, _, q61_mono f F _ _ _ _ _ _ _ _ (Nat.le_of_succ_le hF) h, hM, es, g0, g1⟩
noncomputable def mc_183_99_p39 (N : Nat) (l1 : Int32) (l2 : Int32) (σ : qa_S) (s : Int32 × Int32) : (Int32 × Int32) ⊕ (Int32 × Int32) :=
  if s.1 < (σ 99 0) then
    .inl ((s.1 + (1 : Int32)), (s.2 + ((σ 110 s.1.toNatClampNeg) * (σ 108 (((4 : Int32) * s.1) + l2).toNatClampNeg))))
  else
    .inr (s.1, s.2)
theorem md_183_99_p39 {N F : Nat} {r : Option Value × q4_M} {l1 : Int32} {l2 : Int32} {σ : qa_S} (hN : F ≤ N) : ∀ f n, f ≤ n → f ≤ F → ∀ (s : Int32 × Int32) (lv : List (Nat × Value)) (M : q4_M), qa_O M → qa_s M = σ → q4_get lv 0 = some (.ref 99) → q4_get lv 1 = some (.int (l1)) → q4_get lv 2 = some (.int (l2)) → q4_get lv 3 = some (.int (s.2)) → q4_get lv 4 = some (.int (s.1)) → q4_run f 183 39 lv [] M 0 0 = some r → ∃ lv M, q4_run F 183 76 lv [] M 0 0 = some r ∧ qa_O M ∧ qa_s M = σ ∧ q4_get lv 0 = some (.ref 99) ∧ q4_get lv 1 = some (.int (l1)) ∧ q4_get lv 2 = some (.int (l2)) ∧ q4_get lv 3 = some (.int ((qa_wh (fun s => s) (mc_183_99_p39 N l1 l2 σ) n s).2)) := by
  intro f
  induction f with
  | zero => intro n _ _ s lv M hM es _ _ _ _ _ h; cases h
  | succ f ih =>
    intro n hn hF s lv M hM es g0 g1 g2 g3 g4 h
    obtain ⟨n, rfl⟩ : ∃ n1, n = n1 + 1 := ⟨n - 1, by omega⟩
    replace hn : f ≤ n := Nat.le_of_succ_le_succ hn
    have hN := Nat.le_trans (Nat.le_of_succ_le hF) hN
    replace h := qa_iload (n := 4) (q := 41) (qa_d rfl h) rfl g4
    replace h := qa_aload (n := 0) (q := 42) (qa_e rfl h) rfl g0
    replace h := qa_gi (j := 0) (q := 45) (qa_e rfl h) rfl hM es rfl (by decide)
    by_cases c1 : s.1 < (σ 99 0)
    · replace h := qa_iff (q := 48) (qa_e rfl h) rfl (qa_F_ge c1)
      replace h := qa_iload (n := 3) (q := 49) (qa_e rfl h) rfl g3
      replace h := qa_aload (n := 0) (q := 50) (qa_e rfl h) rfl g0
      replace h := qa_gr (b := 110) (j := 13) (q := 53) (qa_e rfl h) rfl hM rfl (by decide)
      replace h := qa_iload (n := 4) (q := 55) (qa_e rfl h) rfl g4
      replace h := qa_iaload (jn := s.1.toNatClampNeg) (q := 56) (qa_e rfl h) rfl hM es rfl
      replace h := qa_aload (n := 0) (q := 57) (qa_e rfl h) rfl g0
      replace h := qa_gr (b := 108) (j := 11) (q := 60) (qa_e rfl h) rfl hM rfl (by decide)
      replace h := qa_push (z := (4 : Int32)) (q := 61) (qa_e rfl h) rfl (by decide)
      replace h := qa_iload (n := 4) (q := 63) (qa_e rfl h) rfl g4
      replace h := qa_imul (q := 64) (qa_e rfl h) rfl
      replace h := qa_iload (n := 2) (q := 65) (qa_e rfl h) rfl g2
      replace h := qa_iadd (q := 66) (qa_e rfl h) rfl
      replace h := qa_iaload (jn := (((4 : Int32) * s.1) + l2).toNatClampNeg) (q := 67) (qa_e rfl h) rfl hM es rfl
      replace h := qa_imul (q := 68) (qa_e rfl h) rfl
      replace h := qa_iadd (q := 69) (qa_e rfl h) rfl
      obtain ⟨lv, h, g, T⟩ := qa_istore (n := 3) (q := 70) (qa_e rfl h) rfl
      replace g0 := T _ _ g0 (by decide) (Or.inr rfl)
      replace g1 := T _ _ g1 (by decide) (Or.inr rfl)
      replace g2 := T _ _ g2 (by decide) (Or.inr rfl)
      replace g4 := T _ _ g4 (by decide) (Or.inr rfl)
      have g3 := g
      clear g T
      obtain ⟨lv, h, g, T⟩ := qa_iinc (n := 4) (z := (1 : Int32)) (q := 73) (qa_e rfl h) rfl (by decide) g4
      replace g0 := T _ _ g0 (by decide) (Or.inr rfl)
      replace g1 := T _ _ g1 (by decide) (Or.inr rfl)
      replace g2 := T _ _ g2 (by decide) (Or.inr rfl)
      replace g3 := T _ _ g3 (by decide) (Or.inr rfl)
      replace g4 := g
      clear g T
      replace h := qa_goto (q := 39) (qa_e rfl h) rfl
      have e0 : mc_183_99_p39 N l1 l2 σ s = .inl ((s.1 + (1 : Int32)), (s.2 + ((σ 110 s.1.toNatClampNeg) * (σ 108 (((4 : Int32) * s.1) + l2).toNatClampNeg)))) := by exact Eq.trans (if_pos c1) (rfl)
      rw [qa_whl e0]
      exact ih n hn (Nat.le_of_succ_le hF) ((s.1 + (1 : Int32)), (s.2 + ((σ 110 s.1.toNatClampNeg) * (σ 108 (((4 : Int32) * s.1) + l2).toNatClampNeg)))) _ _ hM es g0 g1 g2 g3 g4 h
    · replace h := qa_ift (q := 76) (qa_e rfl h) rfl (qa_T_ge c1)
      have e0 : mc_183_99_p39 N l1 l2 σ s = .inr (s.1, s.2) := by exact Eq.trans (if_neg c1) (rfl)
      rw [qa_whr e0]
      exact ⟨_, _, q61_mono f F _ _ _ _ _ _ _ _ (Nat.le_of_succ_le hF) h, hM, es, g0, g1, g2, g3⟩
noncomputable def mc_183_99_p29 (N : Nat) (l1 : Int32) (s : Int32 × qa_S) : (Int32 × qa_S) ⊕ (Int32 × qa_S) :=
  if s.1 < (4 : Int32) then
    qa_in ((qa_wh (fun s => s) (mc_183_99_p39 N l1 s.1 s.2) N ((0 : Int32), (0 : Int32)))) fun r2 =>
    qa_in (qa_u s.2 111 s.1.toNatClampNeg (if l1 = (0 : Int32) then (0 : Int32) else (r2.2 / l1))) fun m4 =>
    .inl ((s.1 + (1 : Int32)), m4)
  else
    .inr (s.1, s.2)
theorem md_183_99_p29 {N F : Nat} {r : Option Value × q4_M} {l1 : Int32} (hN : F ≤ N) : ∀ f n, f ≤ n → f ≤ F → ∀ (s : Int32 × qa_S) (lv : List (Nat × Value)) (M : q4_M), qa_O M → qa_s M = s.2 → q4_get lv 0 = some (.ref 99) → q4_get lv 1 = some (.int (l1)) → q4_get lv 2 = some (.int (s.1)) → q4_run f 183 29 lv [] M 0 0 = some r → ∃ lv M, q4_run F 183 99 lv [] M 0 0 = some r ∧ qa_O M ∧ qa_s M = (qa_wh (fun s => s) (mc_183_99_p29 N l1) n s).2 := by
  intro f
  induction f with
  | zero => intro n _ _ s lv M hM es _ _ _ h; cases h
  | succ f ih =>
    intro n hn hF s lv M hM es g0 g1 g2 h
    obtain ⟨n, rfl⟩ : ∃ n1, n = n1 + 1 := ⟨n - 1, by omega⟩
    replace hn : f ≤ n := Nat.le_of_succ_le_succ hn
    have hN := Nat.le_trans (Nat.le_of_succ_le hF) hN
    replace h := qa_iload (n := 2) (q := 30) (qa_d rfl h) rfl g2
    replace h := qa_push (z := (4 : Int32)) (q := 31) (qa_e rfl h) rfl (by decide)
    by_cases c1 : s.1 < (4 : Int32)
    · replace h := qa_iff (q := 34) (qa_e rfl h) rfl (qa_F_ge c1)
      replace h := qa_push (z := (0 : Int32)) (q := 35) (qa_e rfl h) rfl (by decide)
      obtain ⟨lv, h, g, T⟩ := qa_istore (n := 3) (q := 36) (qa_e rfl h) rfl
      replace g0 := T _ _ g0 (by decide) (Or.inr rfl)
      replace g1 := T _ _ g1 (by decide) (Or.inr rfl)
      replace g2 := T _ _ g2 (by decide) (Or.inr rfl)
      have g3 := g
      clear g T
      replace h := qa_push (z := (0 : Int32)) (q := 37) (qa_e rfl h) rfl (by decide)
      obtain ⟨lv, h, g, T⟩ := qa_istore (n := 4) (q := 39) (qa_e rfl h) rfl
      replace g0 := T _ _ g0 (by decide) (Or.inr rfl)
      replace g1 := T _ _ g1 (by decide) (Or.inr rfl)
      replace g2 := T _ _ g2 (by decide) (Or.inr rfl)
      replace g3 := T _ _ g3 (by decide) (Or.inr rfl)
      have g4 := g
      clear g T
      obtain ⟨r2, er2⟩ : ∃ x, x = (qa_wh (fun s => s) (mc_183_99_p39 N l1 s.1 s.2) N ((0 : Int32), (0 : Int32))) := ⟨_, rfl⟩
      have L := md_183_99_p39 (l1 := l1) (l2 := s.1) (σ := s.2) (F := f) (N := N) (r := r) hN f N hN (Nat.le_refl f) ((0 : Int32), (0 : Int32)) _ _ hM es g0 g1 g2 g3 g4 h
      rw [← er2] at L
      obtain ⟨lv, M, h, hM, es, g0, g1, g2, g3⟩ := L
      replace h := qa_aload (n := 0) (q := 77) (qa_e rfl h) rfl g0
      replace h := qa_gr (b := 111) (j := 14) (q := 80) (qa_e rfl h) rfl hM rfl (by decide)
      replace h := qa_iload (n := 2) (q := 81) (qa_e rfl h) rfl g2
      replace h := qa_iload (n := 1) (q := 82) (qa_e rfl h) rfl g1
      obtain ⟨lv, M, h, hM, es, g0, g1, g2⟩ : ∃ lv M, q4_run f 183 92 lv [.int ((if l1 = (0 : Int32) then (0 : Int32) else (r2.2 / l1))), .int (s.1), .ref 111] M 0 0 = some r ∧ qa_O M ∧ qa_s M = s.2 ∧ q4_get lv 0 = some (.ref 99) ∧ q4_get lv 1 = some (.int (l1)) ∧ q4_get lv 2 = some (.int (s.1)) := by
        by_cases c3 : l1 = (0 : Int32)
        · replace h := qa_icf (q := 85) (qa_e rfl h) rfl (qa_F_ne c3)
          replace h := qa_push (z := (0 : Int32)) (q := 86) (qa_e rfl h) rfl (by decide)
          replace h := qa_goto (q := 92) (qa_e rfl h) rfl
          exact ⟨lv, M, (qa_hi1 c3 h), hM, es, g0, g1, g2⟩
        · replace h := qa_ict (q := 89) (qa_e rfl h) rfl (qa_T_ne c3)
          replace h := qa_iload (n := 3) (q := 90) (qa_e rfl h) rfl g3
          replace h := qa_iload (n := 1) (q := 91) (qa_e rfl h) rfl g1
          replace h := qa_idiv (q := 92) (qa_e rfl h) rfl
          exact ⟨lv, M, (qa_hi0 c3 h), hM, es, g0, g1, g2⟩
      obtain ⟨m4, em4⟩ : ∃ x, x = qa_u s.2 111 s.1.toNatClampNeg (if l1 = (0 : Int32) then (0 : Int32) else (r2.2 / l1)) := ⟨_, rfl⟩
      obtain ⟨M, h, hM, es⟩ := qa_iastore (jn := s.1.toNatClampNeg) (q := 93) (qa_e rfl h) rfl hM es rfl
      rw [← em4] at es
      obtain ⟨lv, h, g, T⟩ := qa_iinc (n := 2) (z := (1 : Int32)) (q := 96) (qa_e rfl h) rfl (by decide) g2
      replace g0 := T _ _ g0 (by decide) (Or.inr rfl)
      replace g1 := T _ _ g1 (by decide) (Or.inr rfl)
      replace g2 := g
      clear g T
      replace h := qa_goto (q := 29) (qa_e rfl h) rfl
      have e0 : mc_183_99_p29 N l1 s = .inl ((s.1 + (1 : Int32)), m4) := by exact Eq.trans (if_pos c1) (Eq.trans (qa_ie er2) (Eq.trans (qa_ie em4) (rfl)))
      rw [qa_whl e0]
      exact ih n hn (Nat.le_of_succ_le hF) ((s.1 + (1 : Int32)), m4) _ _ hM es g0 g1 g2 h
    · replace h := qa_ift (q := 99) (qa_e rfl h) rfl (qa_T_ge c1)
      have e0 : mc_183_99_p29 N l1 s = .inr (s.1, s.2) := by exact Eq.trans (if_neg c1) (rfl)
      rw [qa_whr e0]
      exact ⟨_, _, q61_mono f F _ _ _ _ _ _ _ _ (Nat.le_of_succ_le hF) h, hM, es⟩
/-- BuriedBySevensModel, mix, ()V -/
noncomputable def ma_183_99 (N : Nat) (σ : qa_S) : qa_S :=
  qa_in ((qa_wh (fun s => s) (mc_183_99_p4 N σ) N ((0 : Int32), (0 : Int32)))) fun r1 =>
  qa_in ((qa_wh (fun s => s) (mc_183_99_p29 N r1.2) N ((0 : Int32), σ))) fun r2 =>
  r2.2
theorem mb_183_99 {f N : Nat} (hN : f ≤ N) {M : q4_M} {r : Option Value × q4_M} {σ : qa_S} (hM : qa_O M) (es : qa_s M = σ) (h : q4_run f 183 0 (lv_args 0 [.ref 99]) [] M 0 0 = some r) : r.1 = none ∧ qa_O r.2 ∧ qa_s r.2 = (ma_183_99 N σ) := by
  obtain ⟨lv, el⟩ : ∃ l, l = lv_args 0 [.ref 99] := ⟨_, rfl⟩
  have g0 : q4_get lv 0 = some (.ref 99) := by rw [el]; rfl
  rw [← el] at h
  clear el
  replace h := qa_push (z := (0 : Int32)) (q := 1) (qa_e rfl h) rfl (by decide)
  obtain ⟨lv, h, g, T⟩ := qa_istore (n := 1) (q := 2) (qa_e rfl h) rfl
  replace g0 := T _ _ g0 (by decide) (Or.inr rfl)
  have g1 := g
  clear g T
  replace h := qa_push (z := (0 : Int32)) (q := 3) (qa_e rfl h) rfl (by decide)
  obtain ⟨lv, h, g, T⟩ := qa_istore (n := 2) (q := 4) (qa_e rfl h) rfl
  replace g0 := T _ _ g0 (by decide) (Or.inr rfl)
  replace g1 := T _ _ g1 (by decide) (Or.inr rfl)
  have g2 := g
  clear g T
  obtain ⟨r1, er1⟩ : ∃ x, x = (qa_wh (fun s => s) (mc_183_99_p4 N σ) N ((0 : Int32), (0 : Int32))) := ⟨_, rfl⟩
  have L := md_183_99_p4 (σ := σ) (F := f) (N := N) (r := r) hN f N hN (Nat.le_refl f) ((0 : Int32), (0 : Int32)) _ _ hM es g0 g1 g2 h
  rw [← er1] at L
  obtain ⟨lv, M, h, hM, es, g0, g1⟩ := L
  replace h := qa_push (z := (0 : Int32)) (q := 28) (qa_e rfl h) rfl (by decide)
  obtain ⟨lv, h, g, T⟩ := qa_istore (n := 2) (q := 29) (qa_e rfl h) rfl
  replace g0 := T _ _ g0 (by decide) (Or.inr rfl)
  replace g1 := T _ _ g1 (by decide) (Or.inr rfl)
  have g2 := g
  clear g T
  obtain ⟨r2, er2⟩ : ∃ x, x = (qa_wh (fun s => s) (mc_183_99_p29 N r1.2) N ((0 : Int32), σ)) := ⟨_, rfl⟩
  have L := md_183_99_p29 (l1 := r1.2) (F := f) (N := N) (r := r) hN f N hN (Nat.le_refl f) ((0 : Int32), σ) _ _ hM es g0 g1 g2 h
  rw [← er2] at L
  obtain ⟨lv, M, h, hM, es⟩ := L
  have er := qa_rv (qa_e rfl h)
  subst er
  have e0 : ma_183_99 N σ = r2.2 := by exact Eq.trans (qa_ie er1) (Eq.trans (qa_ie er2) (rfl))
  rw [e0]
  exact ⟨rfl, hM, es⟩
noncomputable def mc_180_99_p38 (N : Nat) (s : Int32 × qa_S) : (Int32 × qa_S) ⊕ (Int32 × qa_S) :=
  if s.1 < (4 : Int32) then
    qa_in (qa_u s.2 109 s.1.toNatClampNeg (s.2 111 s.1.toNatClampNeg)) fun m2 =>
    .inl ((s.1 + (1 : Int32)), m2)
  else
    .inr (s.1, s.2)
theorem md_180_99_p38 {N F : Nat} {r : Option Value × q4_M} (hN : F ≤ N) : ∀ f n, f ≤ n → f ≤ F → ∀ (s : Int32 × qa_S) (lv : List (Nat × Value)) (M : q4_M), qa_O M → qa_s M = s.2 → q4_get lv 0 = some (.ref 99) → q4_get lv 1 = some (.int (s.1)) → q4_run f 180 38 lv [] M 0 0 = some r → ∃ lv M, q4_run F 180 61 lv [] M 0 0 = some r ∧ qa_O M ∧ qa_s M = (qa_wh (fun s => s) (mc_180_99_p38 N) n s).2 := by
  intro f
  induction f with
  | zero => intro n _ _ s lv M hM es _ _ h; cases h
  | succ f ih =>
    intro n hn hF s lv M hM es g0 g1 h
    obtain ⟨n, rfl⟩ : ∃ n1, n = n1 + 1 := ⟨n - 1, by omega⟩
    replace hn : f ≤ n := Nat.le_of_succ_le_succ hn
    have hN := Nat.le_trans (Nat.le_of_succ_le hF) hN
    replace h := qa_iload (n := 1) (q := 39) (qa_d rfl h) rfl g1
    replace h := qa_push (z := (4 : Int32)) (q := 40) (qa_e rfl h) rfl (by decide)
    by_cases c1 : s.1 < (4 : Int32)
    · replace h := qa_iff (q := 43) (qa_e rfl h) rfl (qa_F_ge c1)
      replace h := qa_aload (n := 0) (q := 44) (qa_e rfl h) rfl g0
      replace h := qa_gr (b := 109) (j := 12) (q := 47) (qa_e rfl h) rfl hM rfl (by decide)
      replace h := qa_iload (n := 1) (q := 48) (qa_e rfl h) rfl g1
      replace h := qa_aload (n := 0) (q := 49) (qa_e rfl h) rfl g0
      replace h := qa_gr (b := 111) (j := 14) (q := 52) (qa_e rfl h) rfl hM rfl (by decide)
      replace h := qa_iload (n := 1) (q := 53) (qa_e rfl h) rfl g1
      replace h := qa_iaload (jn := s.1.toNatClampNeg) (q := 54) (qa_e rfl h) rfl hM es rfl
      obtain ⟨m2, em2⟩ : ∃ x, x = qa_u s.2 109 s.1.toNatClampNeg (s.2 111 s.1.toNatClampNeg) := ⟨_, rfl⟩
      obtain ⟨M, h, hM, es⟩ := qa_iastore (jn := s.1.toNatClampNeg) (q := 55) (qa_e rfl h) rfl hM es rfl
      rw [← em2] at es
      obtain ⟨lv, h, g, T⟩ := qa_iinc (n := 1) (z := (1 : Int32)) (q := 58) (qa_e rfl h) rfl (by decide) g1
      replace g0 := T _ _ g0 (by decide) (Or.inr rfl)
      replace g1 := g
      clear g T
      replace h := qa_goto (q := 38) (qa_e rfl h) rfl
      have e0 : mc_180_99_p38 N s = .inl ((s.1 + (1 : Int32)), m2) := by exact Eq.trans (if_pos c1) (Eq.trans (qa_ie em2) (rfl))
      rw [qa_whl e0]
      exact ih n hn (Nat.le_of_succ_le hF) ((s.1 + (1 : Int32)), m2) _ _ hM es g0 g1 h
    · replace h := qa_ift (q := 61) (qa_e rfl h) rfl (qa_T_ge c1)
      have e0 : mc_180_99_p38 N s = .inr (s.1, s.2) := by exact Eq.trans (if_neg c1) (rfl)
      rw [qa_whr e0]
      exact ⟨_, _, q61_mono f F _ _ _ _ _ _ _ _ (Nat.le_of_succ_le hF) h, hM, es⟩
/-- BuriedBySevensModel, layGlass, ()V -/
noncomputable def ma_180_99 (N : Nat) (σ : qa_S) : qa_S :=
  qa_in ((ma_181_99 N σ)) fun m1 =>
  qa_in ((qa_wh (fun s => s) (mc_180_99_p6 N) N ((0 : Int32), m1))) fun r2 =>
  qa_in ((ma_183_99 N r2.2)) fun m3 =>
  qa_in ((qa_wh (fun s => s) (mc_180_99_p38 N) N ((0 : Int32), m3))) fun r4 =>
  r4.2
theorem mb_180_99 {f N : Nat} (hN : f ≤ N) {M : q4_M} {r : Option Value × q4_M} {σ : qa_S} (hM : qa_O M) (es : qa_s M = σ) (h : q4_run f 180 0 (lv_args 0 [.ref 99]) [] M 0 0 = some r) : r.1 = none ∧ qa_O r.2 ∧ qa_s r.2 = (ma_180_99 N σ) := by
  obtain ⟨lv, el⟩ : ∃ l, l = lv_args 0 [.ref 99] := ⟨_, rfl⟩
  have g0 : q4_get lv 0 = some (.ref 99) := by rw [el]; rfl
  rw [← el] at h
  clear el
  replace h := qa_aload (n := 0) (q := 1) (qa_e rfl h) rfl g0
  obtain ⟨m1, em1⟩ : ∃ x, x = (ma_181_99 N σ) := ⟨_, rfl⟩
  obtain ⟨M, h, hM, es⟩ := qa_c0 (y := 181) (as := [.ref 99]) (rest := []) (i := .invokevirtual 181) (q := 4) (qa_e rfl h) (Or.inl rfl) rfl rfl (by decide) rfl (fun r hc => mb_181_99 hN hM es hc)
  rw [← em1] at es
  replace h := qa_push (z := (0 : Int32)) (q := 5) (qa_e rfl h) rfl (by decide)
  obtain ⟨lv, h, g, T⟩ := qa_istore (n := 1) (q := 6) (qa_e rfl h) rfl
  replace g0 := T _ _ g0 (by decide) (Or.inr rfl)
  have g1 := g
  clear g T
  obtain ⟨r2, er2⟩ : ∃ x, x = (qa_wh (fun s => s) (mc_180_99_p6 N) N ((0 : Int32), m1)) := ⟨_, rfl⟩
  have L := md_180_99_p6 (F := f) (N := N) (r := r) hN f N hN (Nat.le_refl f) ((0 : Int32), m1) _ _ hM es g0 g1 h
  rw [← er2] at L
  obtain ⟨lv, M, h, hM, es, g0⟩ := L
  replace h := qa_aload (n := 0) (q := 33) (qa_e rfl h) rfl g0
  obtain ⟨m3, em3⟩ : ∃ x, x = (ma_183_99 N r2.2) := ⟨_, rfl⟩
  obtain ⟨M, h, hM, es⟩ := qa_c0 (y := 183) (as := [.ref 99]) (rest := []) (i := .invokevirtual 183) (q := 36) (qa_e rfl h) (Or.inl rfl) rfl rfl (by decide) rfl (fun r hc => mb_183_99 hN hM es hc)
  rw [← em3] at es
  replace h := qa_push (z := (0 : Int32)) (q := 37) (qa_e rfl h) rfl (by decide)
  obtain ⟨lv, h, g, T⟩ := qa_istore (n := 1) (q := 38) (qa_e rfl h) rfl
  replace g0 := T _ _ g0 (by decide) (Or.inr rfl)
  have g1 := g
  clear g T
  obtain ⟨r4, er4⟩ : ∃ x, x = (qa_wh (fun s => s) (mc_180_99_p38 N) N ((0 : Int32), m3)) := ⟨_, rfl⟩
  have L := md_180_99_p38 (F := f) (N := N) (r := r) hN f N hN (Nat.le_refl f) ((0 : Int32), m3) _ _ hM es g0 g1 h
  rw [← er4] at L
  obtain ⟨lv, M, h, hM, es⟩ := L
  have er := qa_rv (qa_e rfl h)
  subst er
  have e0 : ma_180_99 N σ = r4.2 := by exact Eq.trans (qa_ie em1) (Eq.trans (qa_ie er2) (Eq.trans (qa_ie em3) (Eq.trans (qa_ie er4) (rfl))))
  rw [e0]
  exact ⟨rfl, hM, es⟩
/-- BuriedBySevensModel, taste, (II)I -/
noncomputable def ma_179_99 (N : Nat) (a1 : Int32) (a2 : Int32) (σ : qa_S) : Int32 × qa_S :=
  qa_in (qa_u σ 99 9 (0 : Int32)) fun m1 =>
  if (ma_158 (a1).toInt64 (-1 : Int64) (((m1 99 0) - (1 : Int32))).toInt64) = (0 : Int32) then
    qa_in ((ma_152_99 (-1 : Int32) m1)) fun r3 =>
    (r3.1, r3.2)
  else
    if (ma_165 a2) = (0 : Int32) then
      qa_in ((ma_152_99 (-1 : Int32) m1)) fun r5 =>
      (r5.1, r5.2)
    else
      qa_in ((ma_180_99 N m1)) fun m6 =>
      ((if a1 < (0 : Int32) then (m6 109 a2.toNatClampNeg) else (m6 108 (((4 : Int32) * a1) + a2).toNatClampNeg)), m6)
theorem mb_179_99 {f N : Nat} (hN : f ≤ N) {M : q4_M} {r : Option Value × q4_M} {σ : qa_S} {a1 : Int32} {a2 : Int32} (hM : qa_O M) (es : qa_s M = σ) (h : q4_run f 179 0 (lv_args 0 [.ref 99, .int (a1), .int (a2)]) [] M 0 0 = some r) : r.1 = some (.int ((ma_179_99 N a1 a2 σ).1)) ∧ qa_O r.2 ∧ qa_s r.2 = (ma_179_99 N a1 a2 σ).2 := by
  obtain ⟨lv, el⟩ : ∃ l, l = lv_args 0 [.ref 99, .int (a1), .int (a2)] := ⟨_, rfl⟩
  have g0 : q4_get lv 0 = some (.ref 99) := by rw [el]; rfl
  have g1 : q4_get lv 1 = some (.int (a1)) := by rw [el]; rfl
  have g2 : q4_get lv 2 = some (.int (a2)) := by rw [el]; rfl
  rw [← el] at h
  clear el
  replace h := qa_aload (n := 0) (q := 1) (qa_e rfl h) rfl g0
  replace h := qa_push (z := (0 : Int32)) (q := 2) (qa_e rfl h) rfl (by decide)
  obtain ⟨m1, em1⟩ : ∃ x, x = qa_u σ 99 9 (0 : Int32) := ⟨_, rfl⟩
  obtain ⟨M, h, hM, es⟩ := qa_pf (j := 9) (q := 5) (qa_e rfl h) rfl hM es rfl (by decide)
  rw [← em1] at es
  replace h := qa_iload (n := 1) (q := 6) (qa_e rfl h) rfl g1
  replace h := qa_i2l (q := 7) (qa_e rfl h) rfl
  replace h := qa_lpush (z := (-1 : Int64)) (q := 10) (qa_e rfl h) rfl (by decide)
  replace h := qa_aload (n := 0) (q := 11) (qa_e rfl h) rfl g0
  replace h := qa_gi (j := 0) (q := 14) (qa_e rfl h) rfl hM es rfl (by decide)
  replace h := qa_push (z := (1 : Int32)) (q := 15) (qa_e rfl h) rfl (by decide)
  replace h := qa_isub (q := 16) (qa_e rfl h) rfl
  replace h := qa_i2l (q := 17) (qa_e rfl h) rfl
  obtain ⟨M, h, hM, es⟩ := qa_c1 (y := 158) (as := [.long ((a1).toInt64), .long ((-1 : Int64)), .long ((((m1 99 0) - (1 : Int32))).toInt64)]) (rest := []) (i := .invokestatic 158) (q := 20) (qa_e rfl h) (Or.inr rfl) rfl rfl (by decide) rfl (fun r hc => mb_158 hM es hc)
  by_cases c2 : (ma_158 (a1).toInt64 (-1 : Int64) (((m1 99 0) - (1 : Int32))).toInt64) = (0 : Int32)
  · replace h := qa_ict (q := 30) (qa_e rfl h) rfl (qa_T_eq c2)
    replace h := qa_aload (n := 0) (q := 31) (qa_e rfl h) rfl g0
    replace h := qa_push (z := (-1 : Int32)) (q := 32) (qa_e rfl h) rfl (by decide)
    obtain ⟨r3, er3⟩ : ∃ x, x = (ma_152_99 (-1 : Int32) m1) := ⟨_, rfl⟩
    obtain ⟨M, h, hM, es⟩ := qa_c1 (y := 152) (as := [.ref 99, .int ((-1 : Int32))]) (rest := []) (i := .invokevirtual 152) (q := 35) (qa_e rfl h) (Or.inl rfl) rfl rfl (by decide) rfl (fun r hc => mb_152_99 hM es hc)
    rw [← er3] at h es
    have er := qa_ri (qa_e rfl h)
    subst er
    have e0 : ma_179_99 N a1 a2 σ = (r3.1, r3.2) := by exact Eq.trans (qa_ie em1) (Eq.trans (if_pos c2) (Eq.trans (qa_ie er3) (rfl)))
    rw [e0]
    exact ⟨rfl, hM, es⟩
  · replace h := qa_icf (q := 23) (qa_e rfl h) rfl (qa_F_eq c2)
    replace h := qa_iload (n := 2) (q := 24) (qa_e rfl h) rfl g2
    obtain ⟨M, h, hM, es⟩ := qa_c1 (y := 165) (as := [.int (a2)]) (rest := []) (i := .invokestatic 165) (q := 27) (qa_e rfl h) (Or.inr rfl) rfl rfl (by decide) rfl (fun r hc => mb_165 hM es hc)
    by_cases c4 : (ma_165 a2) = (0 : Int32)
    · replace h := qa_icf (q := 30) (qa_e rfl h) rfl (qa_F_ne c4)
      replace h := qa_aload (n := 0) (q := 31) (qa_e rfl h) rfl g0
      replace h := qa_push (z := (-1 : Int32)) (q := 32) (qa_e rfl h) rfl (by decide)
      obtain ⟨r5, er5⟩ : ∃ x, x = (ma_152_99 (-1 : Int32) m1) := ⟨_, rfl⟩
      obtain ⟨M, h, hM, es⟩ := qa_c1 (y := 152) (as := [.ref 99, .int ((-1 : Int32))]) (rest := []) (i := .invokevirtual 152) (q := 35) (qa_e rfl h) (Or.inl rfl) rfl rfl (by decide) rfl (fun r hc => mb_152_99 hM es hc)
      rw [← er5] at h es
      have er := qa_ri (qa_e rfl h)
      subst er
      have e0 : ma_179_99 N a1 a2 σ = (r5.1, r5.2) := by exact Eq.trans (qa_ie em1) (Eq.trans (if_neg c2) (Eq.trans (if_pos c4) (Eq.trans (qa_ie er5) (rfl))))
      rw [e0]
      exact ⟨rfl, hM, es⟩
    · replace h := qa_ict (q := 36) (qa_e rfl h) rfl (qa_T_ne c4)
      replace h := qa_aload (n := 0) (q := 37) (qa_e rfl h) rfl g0
      obtain ⟨m6, em6⟩ : ∃ x, x = (ma_180_99 N m1) := ⟨_, rfl⟩
      obtain ⟨M, h, hM, es⟩ := qa_c0 (y := 180) (as := [.ref 99]) (rest := []) (i := .invokevirtual 180) (q := 40) (qa_e rfl h) (Or.inl rfl) rfl rfl (by decide) rfl (fun r hc => mb_180_99 hN hM es hc)
      rw [← em6] at es
      replace h := qa_iload (n := 1) (q := 41) (qa_e rfl h) rfl g1
      obtain ⟨lv, M, h, hM, es⟩ : ∃ lv M, q4_run f 179 63 lv [.int ((if a1 < (0 : Int32) then (m6 109 a2.toNatClampNeg) else (m6 108 (((4 : Int32) * a1) + a2).toNatClampNeg)))] M 0 0 = some r ∧ qa_O M ∧ qa_s M = m6 := by
        by_cases c7 : a1 < (0 : Int32)
        · replace h := qa_icf (q := 44) (qa_e rfl h) rfl (qa_F_ge c7)
          replace h := qa_aload (n := 0) (q := 45) (qa_e rfl h) rfl g0
          replace h := qa_gr (b := 109) (j := 12) (q := 48) (qa_e rfl h) rfl hM rfl (by decide)
          replace h := qa_iload (n := 2) (q := 49) (qa_e rfl h) rfl g2
          replace h := qa_iaload (jn := a2.toNatClampNeg) (q := 50) (qa_e rfl h) rfl hM es rfl
          replace h := qa_goto (q := 63) (qa_e rfl h) rfl
          exact ⟨lv, M, (qa_hi1 c7 h), hM, es⟩
        · replace h := qa_ict (q := 53) (qa_e rfl h) rfl (qa_T_ge c7)
          replace h := qa_aload (n := 0) (q := 54) (qa_e rfl h) rfl g0
          replace h := qa_gr (b := 108) (j := 11) (q := 57) (qa_e rfl h) rfl hM rfl (by decide)
          replace h := qa_push (z := (4 : Int32)) (q := 58) (qa_e rfl h) rfl (by decide)
          replace h := qa_iload (n := 1) (q := 59) (qa_e rfl h) rfl g1
          replace h := qa_imul (q := 60) (qa_e rfl h) rfl
          replace h := qa_iload (n := 2) (q := 61) (qa_e rfl h) rfl g2
          replace h := qa_iadd (q := 62) (qa_e rfl h) rfl
          replace h := qa_iaload (jn := (((4 : Int32) * a1) + a2).toNatClampNeg) (q := 63) (qa_e rfl h) rfl hM es rfl
          exact ⟨lv, M, (qa_hi0 c7 h), hM, es⟩
      have er := qa_ri (qa_e rfl h)
      subst er
      have e0 : ma_179_99 N a1 a2 σ = ((if a1 < (0 : Int32) then (m6 109 a2.toNatClampNeg) else (m6 108 (((4 : Int32) * a1) + a2).toNatClampNeg)), m6) := by exact Eq.trans (qa_ie em1) (Eq.trans (if_neg c2) (Eq.trans (if_neg c4) (Eq.trans (qa_ie em6) (rfl))))
      rw [e0]
      exact ⟨rfl, hM, es⟩
/-- BuriedBySevensModel, hasBit, (II)Z -/
noncomputable def ma_185 (a0 : Int32) (a1 : Int32) : Int32 :=
  (if ((a0 >>> (a1 &&& 31)) &&& (1 : Int32)) = (1 : Int32) then (1 : Int32) else (0 : Int32))
theorem mb_185 {f : Nat} {M : q4_M} {r : Option Value × q4_M} {σ : qa_S} {a0 : Int32} {a1 : Int32} (hM : qa_O M) (es : qa_s M = σ) (h : q4_run f 185 0 (lv_args 0 [.int (a0), .int (a1)]) [] M 0 0 = some r) : r.1 = some (.int ((ma_185 a0 a1))) ∧ qa_O r.2 ∧ qa_s r.2 = σ := by
  obtain ⟨lv, el⟩ : ∃ l, l = lv_args 0 [.int (a0), .int (a1)] := ⟨_, rfl⟩
  have g0 : q4_get lv 0 = some (.int (a0)) := by rw [el]; rfl
  have g1 : q4_get lv 1 = some (.int (a1)) := by rw [el]; rfl
  rw [← el] at h
  clear el
  replace h := qa_iload (n := 0) (q := 1) (qa_e rfl h) rfl g0
  replace h := qa_iload (n := 1) (q := 2) (qa_e rfl h) rfl g1
  replace h := qa_ishr (q := 3) (qa_e rfl h) rfl
  replace h := qa_push (z := (1 : Int32)) (q := 4) (qa_e rfl h) rfl (by decide)
  replace h := qa_iand (q := 5) (qa_e rfl h) rfl
  replace h := qa_push (z := (1 : Int32)) (q := 6) (qa_e rfl h) rfl (by decide)
  obtain ⟨lv, M, h, hM, es⟩ : ∃ lv M, q4_run f 185 14 lv [.int ((if ((a0 >>> (a1 &&& 31)) &&& (1 : Int32)) = (1 : Int32) then (1 : Int32) else (0 : Int32)))] M 0 0 = some r ∧ qa_O M ∧ qa_s M = σ := by
    by_cases c1 : ((a0 >>> (a1 &&& 31)) &&& (1 : Int32)) = (1 : Int32)
    · replace h := qa_iff (q := 9) (qa_e rfl h) rfl (qa_F_ne c1)
      replace h := qa_push (z := (1 : Int32)) (q := 10) (qa_e rfl h) rfl (by decide)
      replace h := qa_goto (q := 14) (qa_e rfl h) rfl
      exact ⟨lv, M, (qa_hi1 c1 h), hM, es⟩
    · replace h := qa_ift (q := 13) (qa_e rfl h) rfl (qa_T_ne c1)
      replace h := qa_push (z := (0 : Int32)) (q := 14) (qa_e rfl h) rfl (by decide)
      exact ⟨lv, M, (qa_hi0 c1 h), hM, es⟩
  have er := qa_ri (qa_e rfl h)
  subst er
  have e0 : ma_185 a0 a1 = (if ((a0 >>> (a1 &&& 31)) &&& (1 : Int32)) = (1 : Int32) then (1 : Int32) else (0 : Int32)) := by exact rfl
  rw [e0]
  exact ⟨rfl, hM, es⟩
/-- BuriedBySevensModel, tellsOf, (II)I -/
noncomputable def ma_186_99 (a1 : Int32) (a2 : Int32) (σ : qa_S) : Int32 :=
  (a2 - (a2 - a2 / ((σ 105 a1.toNatClampNeg) + (1 : Int32)) * ((σ 105 a1.toNatClampNeg) + (1 : Int32))))
theorem mb_186_99 {f : Nat} {M : q4_M} {r : Option Value × q4_M} {σ : qa_S} {a1 : Int32} {a2 : Int32} (hM : qa_O M) (es : qa_s M = σ) (h : q4_run f 186 0 (lv_args 0 [.ref 99, .int (a1), .int (a2)]) [] M 0 0 = some r) : r.1 = some (.int ((ma_186_99 a1 a2 σ))) ∧ qa_O r.2 ∧ qa_s r.2 = σ := by
  obtain ⟨lv, el⟩ : ∃ l, l = lv_args 0 [.ref 99, .int (a1), .int (a2)] := ⟨_, rfl⟩
  have g0 : q4_get lv 0 = some (.ref 99) := by rw [el]; rfl
  have g1 : q4_get lv 1 = some (.int (a1)) := by rw [el]; rfl
  have g2 : q4_get lv 2 = some (.int (a2)) := by rw [el]; rfl
  rw [← el] at h
  clear el
  replace h := qa_iload (n := 2) (q := 1) (qa_e rfl h) rfl g2
  replace h := qa_iload (n := 2) (q := 2) (qa_e rfl h) rfl g2
  replace h := qa_aload (n := 0) (q := 3) (qa_e rfl h) rfl g0
  replace h := qa_gr (b := 105) (j := 7) (q := 6) (qa_e rfl h) rfl hM rfl (by decide)
  replace h := qa_iload (n := 1) (q := 7) (qa_e rfl h) rfl g1
  replace h := qa_iaload (jn := a1.toNatClampNeg) (q := 8) (qa_e rfl h) rfl hM es rfl
  replace h := qa_push (z := (1 : Int32)) (q := 9) (qa_e rfl h) rfl (by decide)
  replace h := qa_iadd (q := 10) (qa_e rfl h) rfl
  replace h := qa_irem (q := 11) (qa_e rfl h) rfl
  replace h := qa_isub (q := 12) (qa_e rfl h) rfl
  have er := qa_ri (qa_e rfl h)
  subst er
  have e0 : ma_186_99 a1 a2 σ = (a2 - (a2 - a2 / ((σ 105 a1.toNatClampNeg) + (1 : Int32)) * ((σ 105 a1.toNatClampNeg) + (1 : Int32)))) := by exact rfl
  rw [e0]
  exact ⟨rfl, hM, es⟩
/-- BuriedBySevensModel, tells, (III)I -/
noncomputable def ma_184_99 (N : Nat) (a1 : Int32) (a2 : Int32) (a3 : Int32) (σ : qa_S) : Int32 × qa_S :=
  qa_in (qa_u σ 99 9 (0 : Int32)) fun m1 =>
  if (ma_171_99 a1 m1) = (0 : Int32) then
    qa_in ((ma_152_99 (-1 : Int32) m1)) fun r3 =>
    (r3.1, r3.2)
  else
    if (ma_158 (a2).toInt64 (-1 : Int64) (((m1 99 0) - (1 : Int32))).toInt64) = (0 : Int32) then
      qa_in ((ma_152_99 (-1 : Int32) m1)) fun r5 =>
      (r5.1, r5.2)
    else
      if (ma_165 a3) = (0 : Int32) then
        qa_in ((ma_152_99 (-1 : Int32) m1)) fun r7 =>
        (r7.1, r7.2)
      else
        qa_in ((ma_180_99 N m1)) fun m8 =>
        ((if (ma_185 (m8 104 a1.toNatClampNeg) a3) = (0 : Int32) then (-9 : Int32) else (ma_186_99 a1 (if a2 < (0 : Int32) then (m8 109 a3.toNatClampNeg) else (m8 108 (((4 : Int32) * a2) + a3).toNatClampNeg)) m8)), m8)
theorem mb_184_99 {f N : Nat} (hN : f ≤ N) {M : q4_M} {r : Option Value × q4_M} {σ : qa_S} {a1 : Int32} {a2 : Int32} {a3 : Int32} (hM : qa_O M) (es : qa_s M = σ) (h : q4_run f 184 0 (lv_args 0 [.ref 99, .int (a1), .int (a2), .int (a3)]) [] M 0 0 = some r) : r.1 = some (.int ((ma_184_99 N a1 a2 a3 σ).1)) ∧ qa_O r.2 ∧ qa_s r.2 = (ma_184_99 N a1 a2 a3 σ).2 := by
  obtain ⟨lv, el⟩ : ∃ l, l = lv_args 0 [.ref 99, .int (a1), .int (a2), .int (a3)] := ⟨_, rfl⟩
  have g0 : q4_get lv 0 = some (.ref 99) := by rw [el]; rfl
  have g1 : q4_get lv 1 = some (.int (a1)) := by rw [el]; rfl
  have g2 : q4_get lv 2 = some (.int (a2)) := by rw [el]; rfl
  have g3 : q4_get lv 3 = some (.int (a3)) := by rw [el]; rfl
  rw [← el] at h
  clear el
  replace h := qa_aload (n := 0) (q := 1) (qa_e rfl h) rfl g0
  replace h := qa_push (z := (0 : Int32)) (q := 2) (qa_e rfl h) rfl (by decide)
  obtain ⟨m1, em1⟩ : ∃ x, x = qa_u σ 99 9 (0 : Int32) := ⟨_, rfl⟩
  obtain ⟨M, h, hM, es⟩ := qa_pf (j := 9) (q := 5) (qa_e rfl h) rfl hM es rfl (by decide)
  rw [← em1] at es
  replace h := qa_aload (n := 0) (q := 6) (qa_e rfl h) rfl g0
  replace h := qa_iload (n := 1) (q := 7) (qa_e rfl h) rfl g1
  obtain ⟨M, h, hM, es⟩ := qa_c1 (y := 171) (as := [.ref 99, .int (a1)]) (rest := []) (i := .invokevirtual 171) (q := 10) (qa_e rfl h) (Or.inl rfl) rfl rfl (by decide) rfl (fun r hc => mb_171_99 hM es hc)
  by_cases c2 : (ma_171_99 a1 m1) = (0 : Int32)
  · replace h := qa_ict (q := 38) (qa_e rfl h) rfl (qa_T_eq c2)
    replace h := qa_aload (n := 0) (q := 39) (qa_e rfl h) rfl g0
    replace h := qa_push (z := (-1 : Int32)) (q := 40) (qa_e rfl h) rfl (by decide)
    obtain ⟨r3, er3⟩ : ∃ x, x = (ma_152_99 (-1 : Int32) m1) := ⟨_, rfl⟩
    obtain ⟨M, h, hM, es⟩ := qa_c1 (y := 152) (as := [.ref 99, .int ((-1 : Int32))]) (rest := []) (i := .invokevirtual 152) (q := 43) (qa_e rfl h) (Or.inl rfl) rfl rfl (by decide) rfl (fun r hc => mb_152_99 hM es hc)
    rw [← er3] at h es
    have er := qa_ri (qa_e rfl h)
    subst er
    have e0 : ma_184_99 N a1 a2 a3 σ = (r3.1, r3.2) := by exact Eq.trans (qa_ie em1) (Eq.trans (if_pos c2) (Eq.trans (qa_ie er3) (rfl)))
    rw [e0]
    exact ⟨rfl, hM, es⟩
  · replace h := qa_icf (q := 13) (qa_e rfl h) rfl (qa_F_eq c2)
    replace h := qa_iload (n := 2) (q := 14) (qa_e rfl h) rfl g2
    replace h := qa_i2l (q := 15) (qa_e rfl h) rfl
    replace h := qa_lpush (z := (-1 : Int64)) (q := 18) (qa_e rfl h) rfl (by decide)
    replace h := qa_aload (n := 0) (q := 19) (qa_e rfl h) rfl g0
    replace h := qa_gi (j := 0) (q := 22) (qa_e rfl h) rfl hM es rfl (by decide)
    replace h := qa_push (z := (1 : Int32)) (q := 23) (qa_e rfl h) rfl (by decide)
    replace h := qa_isub (q := 24) (qa_e rfl h) rfl
    replace h := qa_i2l (q := 25) (qa_e rfl h) rfl
    obtain ⟨M, h, hM, es⟩ := qa_c1 (y := 158) (as := [.long ((a2).toInt64), .long ((-1 : Int64)), .long ((((m1 99 0) - (1 : Int32))).toInt64)]) (rest := []) (i := .invokestatic 158) (q := 28) (qa_e rfl h) (Or.inr rfl) rfl rfl (by decide) rfl (fun r hc => mb_158 hM es hc)
    by_cases c4 : (ma_158 (a2).toInt64 (-1 : Int64) (((m1 99 0) - (1 : Int32))).toInt64) = (0 : Int32)
    · replace h := qa_ict (q := 38) (qa_e rfl h) rfl (qa_T_eq c4)
      replace h := qa_aload (n := 0) (q := 39) (qa_e rfl h) rfl g0
      replace h := qa_push (z := (-1 : Int32)) (q := 40) (qa_e rfl h) rfl (by decide)
      obtain ⟨r5, er5⟩ : ∃ x, x = (ma_152_99 (-1 : Int32) m1) := ⟨_, rfl⟩
      obtain ⟨M, h, hM, es⟩ := qa_c1 (y := 152) (as := [.ref 99, .int ((-1 : Int32))]) (rest := []) (i := .invokevirtual 152) (q := 43) (qa_e rfl h) (Or.inl rfl) rfl rfl (by decide) rfl (fun r hc => mb_152_99 hM es hc)
      rw [← er5] at h es
      have er := qa_ri (qa_e rfl h)
      subst er
      have e0 : ma_184_99 N a1 a2 a3 σ = (r5.1, r5.2) := by exact Eq.trans (qa_ie em1) (Eq.trans (if_neg c2) (Eq.trans (if_pos c4) (Eq.trans (qa_ie er5) (rfl))))
      rw [e0]
      exact ⟨rfl, hM, es⟩
    · replace h := qa_icf (q := 31) (qa_e rfl h) rfl (qa_F_eq c4)
      replace h := qa_iload (n := 3) (q := 32) (qa_e rfl h) rfl g3
      obtain ⟨M, h, hM, es⟩ := qa_c1 (y := 165) (as := [.int (a3)]) (rest := []) (i := .invokestatic 165) (q := 35) (qa_e rfl h) (Or.inr rfl) rfl rfl (by decide) rfl (fun r hc => mb_165 hM es hc)
      by_cases c6 : (ma_165 a3) = (0 : Int32)
      · replace h := qa_icf (q := 38) (qa_e rfl h) rfl (qa_F_ne c6)
        replace h := qa_aload (n := 0) (q := 39) (qa_e rfl h) rfl g0
        replace h := qa_push (z := (-1 : Int32)) (q := 40) (qa_e rfl h) rfl (by decide)
        obtain ⟨r7, er7⟩ : ∃ x, x = (ma_152_99 (-1 : Int32) m1) := ⟨_, rfl⟩
        obtain ⟨M, h, hM, es⟩ := qa_c1 (y := 152) (as := [.ref 99, .int ((-1 : Int32))]) (rest := []) (i := .invokevirtual 152) (q := 43) (qa_e rfl h) (Or.inl rfl) rfl rfl (by decide) rfl (fun r hc => mb_152_99 hM es hc)
        rw [← er7] at h es
        have er := qa_ri (qa_e rfl h)
        subst er
        have e0 : ma_184_99 N a1 a2 a3 σ = (r7.1, r7.2) := by exact Eq.trans (qa_ie em1) (Eq.trans (if_neg c2) (Eq.trans (if_neg c4) (Eq.trans (if_pos c6) (Eq.trans (qa_ie er7) (rfl)))))
        rw [e0]
        exact ⟨rfl, hM, es⟩
      · replace h := qa_ict (q := 44) (qa_e rfl h) rfl (qa_T_ne c6)
        replace h := qa_aload (n := 0) (q := 45) (qa_e rfl h) rfl g0
        obtain ⟨m8, em8⟩ : ∃ x, x = (ma_180_99 N m1) := ⟨_, rfl⟩
        obtain ⟨M, h, hM, es⟩ := qa_c0 (y := 180) (as := [.ref 99]) (rest := []) (i := .invokevirtual 180) (q := 48) (qa_e rfl h) (Or.inl rfl) rfl rfl (by decide) rfl (fun r hc => mb_180_99 hN hM es hc)
        rw [← em8] at es
        replace h := qa_aload (n := 0) (q := 49) (qa_e rfl h) rfl g0
        replace h := qa_gr (b := 104) (j := 6) (q := 52) (qa_e rfl h) rfl hM rfl (by decide)
        replace h := qa_iload (n := 1) (q := 53) (qa_e rfl h) rfl g1
        replace h := qa_iaload (jn := a1.toNatClampNeg) (q := 54) (qa_e rfl h) rfl hM es rfl
        replace h := qa_iload (n := 3) (q := 55) (qa_e rfl h) rfl g3
        obtain ⟨M, h, hM, es⟩ := qa_c1 (y := 185) (as := [.int ((m8 104 a1.toNatClampNeg)), .int (a3)]) (rest := []) (i := .invokestatic 185) (q := 58) (qa_e rfl h) (Or.inr rfl) rfl rfl (by decide) rfl (fun r hc => mb_185 hM es hc)
        obtain ⟨lv, M, h, hM, es⟩ : ∃ lv M, q4_run f 184 94 lv [.int ((if (ma_185 (m8 104 a1.toNatClampNeg) a3) = (0 : Int32) then (-9 : Int32) else (ma_186_99 a1 (if a2 < (0 : Int32) then (m8 109 a3.toNatClampNeg) else (m8 108 (((4 : Int32) * a2) + a3).toNatClampNeg)) m8)))] M 0 0 = some r ∧ qa_O M ∧ qa_s M = m8 := by
          by_cases c9 : (ma_185 (m8 104 a1.toNatClampNeg) a3) = (0 : Int32)
          · replace h := qa_ict (q := 92) (qa_e rfl h) rfl (qa_T_eq c9)
            replace h := qa_push (z := (-9 : Int32)) (q := 94) (qa_e rfl h) rfl (by decide)
            exact ⟨lv, M, (qa_hi1 c9 h), hM, es⟩
          · replace h := qa_icf (q := 61) (qa_e rfl h) rfl (qa_F_eq c9)
            replace h := qa_aload (n := 0) (q := 62) (qa_e rfl h) rfl g0
            replace h := qa_iload (n := 1) (q := 63) (qa_e rfl h) rfl g1
            replace h := qa_iload (n := 2) (q := 64) (qa_e rfl h) rfl g2
            obtain ⟨lv, M, h, hM, es⟩ : ∃ lv M, q4_run f 184 86 lv [.int ((if a2 < (0 : Int32) then (m8 109 a3.toNatClampNeg) else (m8 108 (((4 : Int32) * a2) + a3).toNatClampNeg))), .int (a1), .ref 99] M 0 0 = some r ∧ qa_O M ∧ qa_s M = m8 := by
              by_cases c10 : a2 < (0 : Int32)
              · replace h := qa_icf (q := 67) (qa_e rfl h) rfl (qa_F_ge c10)
                replace h := qa_aload (n := 0) (q := 68) (qa_e rfl h) rfl g0
                replace h := qa_gr (b := 109) (j := 12) (q := 71) (qa_e rfl h) rfl hM rfl (by decide)
                replace h := qa_iload (n := 3) (q := 72) (qa_e rfl h) rfl g3
                replace h := qa_iaload (jn := a3.toNatClampNeg) (q := 73) (qa_e rfl h) rfl hM es rfl
                replace h := qa_goto (q := 86) (qa_e rfl h) rfl
                exact ⟨lv, M, (qa_hi1 c10 h), hM, es⟩
              · replace h := qa_ict (q := 76) (qa_e rfl h) rfl (qa_T_ge c10)
                replace h := qa_aload (n := 0) (q := 77) (qa_e rfl h) rfl g0
                replace h := qa_gr (b := 108) (j := 11) (q := 80) (qa_e rfl h) rfl hM rfl (by decide)
                replace h := qa_push (z := (4 : Int32)) (q := 81) (qa_e rfl h) rfl (by decide)
                replace h := qa_iload (n := 2) (q := 82) (qa_e rfl h) rfl g2
                replace h := qa_imul (q := 83) (qa_e rfl h) rfl
                replace h := qa_iload (n := 3) (q := 84) (qa_e rfl h) rfl g3
                replace h := qa_iadd (q := 85) (qa_e rfl h) rfl
                replace h := qa_iaload (jn := (((4 : Int32) * a2) + a3).toNatClampNeg) (q := 86) (qa_e rfl h) rfl hM es rfl
                exact ⟨lv, M, (qa_hi0 c10 h), hM, es⟩
            obtain ⟨M, h, hM, es⟩ := qa_c1 (y := 186) (as := [.ref 99, .int (a1), .int ((if a2 < (0 : Int32) then (m8 109 a3.toNatClampNeg) else (m8 108 (((4 : Int32) * a2) + a3).toNatClampNeg)))]) (rest := []) (i := .invokevirtual 186) (q := 89) (qa_e rfl h) (Or.inl rfl) rfl rfl (by decide) rfl (fun r hc => mb_186_99 hM es hc)
            replace h := qa_goto (q := 94) (qa_e rfl h) rfl
            exact ⟨lv, M, (qa_hi0 c9 h), hM, es⟩
        have er := qa_ri (qa_e rfl h)
        subst er
        have e0 : ma_184_99 N a1 a2 a3 σ = ((if (ma_185 (m8 104 a1.toNatClampNeg) a3) = (0 : Int32) then (-9 : Int32) else (ma_186_99 a1 (if a2 < (0 : Int32) then (m8 109 a3.toNatClampNeg) else (m8 108 (((4 : Int32) * a2) + a3).toNatClampNeg)) m8)), m8) := by exact Eq.trans (qa_ie em1) (Eq.trans (if_neg c2) (Eq.trans (if_neg c4) (Eq.trans (if_neg c6) (Eq.trans (qa_ie em8) (rfl)))))
        rw [e0]
        exact ⟨rfl, hM, es⟩
noncomputable def mc_188_99_p6 (N : Nat) (l1 : Int32) (l2 : Int32) (l3 : Int32) (σ : qa_S) (s : Int32 × Int32) : (Int32 × Int32) ⊕ (Int32 × Int32) :=
  if s.1 < (4 : Int32) then
    .inl ((s.1 + (1 : Int32)), (if s.2 = (0 : Int32) then (if (ma_185 (σ 104 l1.toNatClampNeg) s.1) = (0 : Int32) then (0 : Int32) else (if (ma_186_99 l1 (σ 108 (((4 : Int32) * l2) + s.1).toNatClampNeg) σ) = (ma_186_99 l1 (σ 108 (((4 : Int32) * l3) + s.1).toNatClampNeg) σ) then (0 : Int32) else (1 : Int32))) else (1 : Int32)))
  else
    .inr (s.1, s.2)
theorem md_188_99_p6 {N F : Nat} {r : Option Value × q4_M} {l1 : Int32} {l2 : Int32} {l3 : Int32} {σ : qa_S} (hN : F ≤ N) : ∀ f n, f ≤ n → f ≤ F → ∀ (s : Int32 × Int32) (lv : List (Nat × Value)) (M : q4_M), qa_O M → qa_s M = σ → q4_get lv 0 = some (.ref 99) → q4_get lv 1 = some (.int (l1)) → q4_get lv 2 = some (.int (l2)) → q4_get lv 3 = some (.int (l3)) → q4_get lv 4 = some (.int (s.2)) → q4_get lv 5 = some (.int (s.1)) → q4_run f 188 6 lv [] M 0 0 = some r → ∃ lv M, q4_run F 188 79 lv [] M 0 0 = some r ∧ qa_O M ∧ qa_s M = σ ∧ q4_get lv 4 = some (.int ((qa_wh (fun s => s) (mc_188_99_p6 N l1 l2 l3 σ) n s).2)) := by
  intro f
  induction f with
  | zero => intro n _ _ s lv M hM es _ _ _ _ _ _ h; cases h
  | succ f ih =>
    intro n hn hF s lv M hM es g0 g1 g2 g3 g4 g5 h
    obtain ⟨n, rfl⟩ : ∃ n1, n = n1 + 1 := ⟨n - 1, by omega⟩
    replace hn : f ≤ n := Nat.le_of_succ_le_succ hn
    have hN := Nat.le_trans (Nat.le_of_succ_le hF) hN
    replace h := qa_iload (n := 5) (q := 8) (qa_d rfl h) rfl g5
    replace h := qa_push (z := (4 : Int32)) (q := 9) (qa_e rfl h) rfl (by decide)
    by_cases c1 : s.1 < (4 : Int32)
    · replace h := qa_iff (q := 12) (qa_e rfl h) rfl (qa_F_ge c1)
      replace h := qa_iload (n := 4) (q := 14) (qa_e rfl h) rfl g4
      obtain ⟨lv, M, h, hM, es, g0, g1, g2, g3, g5⟩ : ∃ lv M, q4_run f 188 71 lv [.int ((if s.2 = (0 : Int32) then (if (ma_185 (σ 104 l1.toNatClampNeg) s.1) = (0 : Int32) then (0 : Int32) else (if (ma_186_99 l1 (σ 108 (((4 : Int32) * l2) + s.1).toNatClampNeg) σ) = (ma_186_99 l1 (σ 108 (((4 : Int32) * l3) + s.1).toNatClampNeg) σ) then (0 : Int32) else (1 : Int32))) else (1 : Int32)))] M 0 0 = some r ∧ qa_O M ∧ qa_s M = σ ∧ q4_get lv 0 = some (.ref 99) ∧ q4_get lv 1 = some (.int (l1)) ∧ q4_get lv 2 = some (.int (l2)) ∧ q4_get lv 3 = some (.int (l3)) ∧ q4_get lv 5 = some (.int (s.1)) := by
        by_cases c2 : s.2 = (0 : Int32)
        · replace h := qa_icf (q := 17) (qa_e rfl h) rfl (qa_F_ne c2)
          replace h := qa_aload (n := 0) (q := 18) (qa_e rfl h) rfl g0
          replace h := qa_gr (b := 104) (j := 6) (q := 21) (qa_e rfl h) rfl hM rfl (by decide)
          replace h := qa_iload (n := 1) (q := 22) (qa_e rfl h) rfl g1
          replace h := qa_iaload (jn := l1.toNatClampNeg) (q := 23) (qa_e rfl h) rfl hM es rfl
          replace h := qa_iload (n := 5) (q := 25) (qa_e rfl h) rfl g5
          obtain ⟨M, h, hM, es⟩ := qa_c1 (y := 185) (as := [.int ((σ 104 l1.toNatClampNeg)), .int (s.1)]) (rest := []) (i := .invokestatic 185) (q := 28) (qa_e rfl h) (Or.inr rfl) rfl rfl (by decide) rfl (fun r hc => mb_185 hM es hc)
          obtain ⟨lv, M, h, hM, es, g0, g1, g2, g3, g5⟩ : ∃ lv M, q4_run f 188 71 lv [.int ((if (ma_185 (σ 104 l1.toNatClampNeg) s.1) = (0 : Int32) then (0 : Int32) else (if (ma_186_99 l1 (σ 108 (((4 : Int32) * l2) + s.1).toNatClampNeg) σ) = (ma_186_99 l1 (σ 108 (((4 : Int32) * l3) + s.1).toNatClampNeg) σ) then (0 : Int32) else (1 : Int32))))] M 0 0 = some r ∧ qa_O M ∧ qa_s M = σ ∧ q4_get lv 0 = some (.ref 99) ∧ q4_get lv 1 = some (.int (l1)) ∧ q4_get lv 2 = some (.int (l2)) ∧ q4_get lv 3 = some (.int (l3)) ∧ q4_get lv 5 = some (.int (s.1)) := by
            by_cases c3 : (ma_185 (σ 104 l1.toNatClampNeg) s.1) = (0 : Int32)
            · replace h := qa_ict (q := 70) (qa_e rfl h) rfl (qa_T_eq c3)
              replace h := qa_push (z := (0 : Int32)) (q := 71) (qa_e rfl h) rfl (by decide)
              exact ⟨lv, M, (qa_hi1 c3 h), hM, es, g0, g1, g2, g3, g5⟩
            · replace h := qa_icf (q := 31) (qa_e rfl h) rfl (qa_F_eq c3)
              replace h := qa_aload (n := 0) (q := 32) (qa_e rfl h) rfl g0
              replace h := qa_iload (n := 1) (q := 33) (qa_e rfl h) rfl g1
              replace h := qa_aload (n := 0) (q := 34) (qa_e rfl h) rfl g0
              replace h := qa_gr (b := 108) (j := 11) (q := 37) (qa_e rfl h) rfl hM rfl (by decide)
              replace h := qa_push (z := (4 : Int32)) (q := 38) (qa_e rfl h) rfl (by decide)
              replace h := qa_iload (n := 2) (q := 39) (qa_e rfl h) rfl g2
              replace h := qa_imul (q := 40) (qa_e rfl h) rfl
              replace h := qa_iload (n := 5) (q := 42) (qa_e rfl h) rfl g5
              replace h := qa_iadd (q := 43) (qa_e rfl h) rfl
              replace h := qa_iaload (jn := (((4 : Int32) * l2) + s.1).toNatClampNeg) (q := 44) (qa_e rfl h) rfl hM es rfl
              obtain ⟨M, h, hM, es⟩ := qa_c1 (y := 186) (as := [.ref 99, .int (l1), .int ((σ 108 (((4 : Int32) * l2) + s.1).toNatClampNeg))]) (rest := []) (i := .invokevirtual 186) (q := 47) (qa_e rfl h) (Or.inl rfl) rfl rfl (by decide) rfl (fun r hc => mb_186_99 hM es hc)
              replace h := qa_aload (n := 0) (q := 48) (qa_e rfl h) rfl g0
              replace h := qa_iload (n := 1) (q := 49) (qa_e rfl h) rfl g1
              replace h := qa_aload (n := 0) (q := 50) (qa_e rfl h) rfl g0
              replace h := qa_gr (b := 108) (j := 11) (q := 53) (qa_e rfl h) rfl hM rfl (by decide)
              replace h := qa_push (z := (4 : Int32)) (q := 54) (qa_e rfl h) rfl (by decide)
              replace h := qa_iload (n := 3) (q := 55) (qa_e rfl h) rfl g3
              replace h := qa_imul (q := 56) (qa_e rfl h) rfl
              replace h := qa_iload (n := 5) (q := 58) (qa_e rfl h) rfl g5
              replace h := qa_iadd (q := 59) (qa_e rfl h) rfl
              replace h := qa_iaload (jn := (((4 : Int32) * l3) + s.1).toNatClampNeg) (q := 60) (qa_e rfl h) rfl hM es rfl
              obtain ⟨M, h, hM, es⟩ := qa_c1 (y := 186) (as := [.ref 99, .int (l1), .int ((σ 108 (((4 : Int32) * l3) + s.1).toNatClampNeg))]) (rest := [.int ((ma_186_99 l1 (σ 108 (((4 : Int32) * l2) + s.1).toNatClampNeg) σ))]) (i := .invokevirtual 186) (q := 63) (qa_e rfl h) (Or.inl rfl) rfl rfl (by decide) rfl (fun r hc => mb_186_99 hM es hc)
              obtain ⟨lv, M, h, hM, es, g0, g1, g2, g3, g5⟩ : ∃ lv M, q4_run f 188 71 lv [.int ((if (ma_186_99 l1 (σ 108 (((4 : Int32) * l2) + s.1).toNatClampNeg) σ) = (ma_186_99 l1 (σ 108 (((4 : Int32) * l3) + s.1).toNatClampNeg) σ) then (0 : Int32) else (1 : Int32)))] M 0 0 = some r ∧ qa_O M ∧ qa_s M = σ ∧ q4_get lv 0 = some (.ref 99) ∧ q4_get lv 1 = some (.int (l1)) ∧ q4_get lv 2 = some (.int (l2)) ∧ q4_get lv 3 = some (.int (l3)) ∧ q4_get lv 5 = some (.int (s.1)) := by
                by_cases c4 : (ma_186_99 l1 (σ 108 (((4 : Int32) * l2) + s.1).toNatClampNeg) σ) = (ma_186_99 l1 (σ 108 (((4 : Int32) * l3) + s.1).toNatClampNeg) σ)
                · replace h := qa_ift (q := 70) (qa_e rfl h) rfl (qa_T_eq c4)
                  replace h := qa_push (z := (0 : Int32)) (q := 71) (qa_e rfl h) rfl (by decide)
                  exact ⟨lv, M, (qa_hi1 c4 h), hM, es, g0, g1, g2, g3, g5⟩
                · replace h := qa_iff (q := 66) (qa_e rfl h) rfl (qa_F_eq c4)
                  replace h := qa_push (z := (1 : Int32)) (q := 67) (qa_e rfl h) rfl (by decide)
                  replace h := qa_goto (q := 71) (qa_e rfl h) rfl
                  exact ⟨lv, M, (qa_hi0 c4 h), hM, es, g0, g1, g2, g3, g5⟩
              exact ⟨lv, M, (qa_hi0 c3 h), hM, es, g0, g1, g2, g3, g5⟩
          exact ⟨lv, M, (qa_hi1 c2 h), hM, es, g0, g1, g2, g3, g5⟩
        · replace h := qa_ict (q := 66) (qa_e rfl h) rfl (qa_T_ne c2)
          replace h := qa_push (z := (1 : Int32)) (q := 67) (qa_e rfl h) rfl (by decide)
          replace h := qa_goto (q := 71) (qa_e rfl h) rfl
          exact ⟨lv, M, (qa_hi0 c2 h), hM, es, g0, g1, g2, g3, g5⟩
      obtain ⟨lv, h, g, T⟩ := qa_istore (n := 4) (q := 73) (qa_e rfl h) rfl
      replace g0 := T _ _ g0 (by decide) (Or.inr rfl)
      replace g1 := T _ _ g1 (by decide) (Or.inr rfl)
      replace g2 := T _ _ g2 (by decide) (Or.inr rfl)
      replace g3 := T _ _ g3 (by decide) (Or.inr rfl)
      replace g5 := T _ _ g5 (by decide) (Or.inr rfl)
      have g4 := g
      clear g T
      obtain ⟨lv, h, g, T⟩ := qa_iinc (n := 5) (z := (1 : Int32)) (q := 76) (qa_e rfl h) rfl (by decide) g5
      replace g0 := T _ _ g0 (by decide) (Or.inr rfl)
      replace g1 := T _ _ g1 (by decide) (Or.inr rfl)
      replace g2 := T _ _ g2 (by decide) (Or.inr rfl)
      replace g3 := T _ _ g3 (by decide) (Or.inr rfl)
      replace g4 := T _ _ g4 (by decide) (Or.inr rfl)
      replace g5 := g
      clear g T
      replace h := qa_goto (q := 6) (qa_e rfl h) rfl
      have e0 : mc_188_99_p6 N l1 l2 l3 σ s = .inl ((s.1 + (1 : Int32)), (if s.2 = (0 : Int32) then (if (ma_185 (σ 104 l1.toNatClampNeg) s.1) = (0 : Int32) then (0 : Int32) else (if (ma_186_99 l1 (σ 108 (((4 : Int32) * l2) + s.1).toNatClampNeg) σ) = (ma_186_99 l1 (σ 108 (((4 : Int32) * l3) + s.1).toNatClampNeg) σ) then (0 : Int32) else (1 : Int32))) else (1 : Int32))) := by exact Eq.trans (if_pos c1) (rfl)
      rw [qa_whl e0]
      exact ih n hn (Nat.le_of_succ_le hF) ((s.1 + (1 : Int32)), (if s.2 = (0 : Int32) then (if (ma_185 (σ 104 l1.toNatClampNeg) s.1) = (0 : Int32) then (0 : Int32) else (if (ma_186_99 l1 (σ 108 (((4 : Int32) * l2) + s.1).toNatClampNeg) σ) = (ma_186_99 l1 (σ 108 (((4 : Int32) * l3) + s.1).toNatClampNeg) σ) then (0 : Int32) else (1 : Int32))) else (1 : Int32))) _ _ hM es g0 g1 g2 g3 g4 g5 h
    · replace h := qa_ift (q := 79) (qa_e rfl h) rfl (qa_T_ge c1)
      have e0 : mc_188_99_p6 N l1 l2 l3 σ s = .inr (s.1, s.2) := by exact Eq.trans (if_neg c1) (rfl)
      rw [qa_whr e0]
      exact ⟨_, _, q61_mono f F _ _ _ _ _ _ _ _ (Nat.le_of_succ_le hF) h, hM, es, g4⟩
/-- BuriedBySevensModel, tellsTwo, (III)Z -/
noncomputable def ma_188_99 (N : Nat) (a1 : Int32) (a2 : Int32) (a3 : Int32) (σ : qa_S) : Int32 :=
  qa_in ((qa_wh (fun s => s) (mc_188_99_p6 N a1 a2 a3 σ) N ((0 : Int32), (0 : Int32)))) fun r1 =>
  r1.2
theorem mb_188_99 {f N : Nat} (hN : f ≤ N) {M : q4_M} {r : Option Value × q4_M} {σ : qa_S} {a1 : Int32} {a2 : Int32} {a3 : Int32} (hM : qa_O M) (es : qa_s M = σ) (h : q4_run f 188 0 (lv_args 0 [.ref 99, .int (a1), .int (a2), .int (a3)]) [] M 0 0 = some r) : r.1 = some (.int ((ma_188_99 N a1 a2 a3 σ))) ∧ qa_O r.2 ∧ qa_s r.2 = σ := by
  obtain ⟨lv, el⟩ : ∃ l, l = lv_args 0 [.ref 99, .int (a1), .int (a2), .int (a3)] := ⟨_, rfl⟩
  have g0 : q4_get lv 0 = some (.ref 99) := by rw [el]; rfl
  have g1 : q4_get lv 1 = some (.int (a1)) := by rw [el]; rfl
  have g2 : q4_get lv 2 = some (.int (a2)) := by rw [el]; rfl
  have g3 : q4_get lv 3 = some (.int (a3)) := by rw [el]; rfl
  rw [← el] at h
  clear el
  replace h := qa_push (z := (0 : Int32)) (q := 1) (qa_e rfl h) rfl (by decide)
  obtain ⟨lv, h, g, T⟩ := qa_istore (n := 4) (q := 3) (qa_e rfl h) rfl
  replace g0 := T _ _ g0 (by decide) (Or.inr rfl)
  replace g1 := T _ _ g1 (by decide) (Or.inr rfl)
  replace g2 := T _ _ g2 (by decide) (Or.inr rfl)
  replace g3 := T _ _ g3 (by decide) (Or.inr rfl)
  have g4 := g
  clear g T
  replace h := qa_push (z := (0 : Int32)) (q := 4) (qa_e rfl h) rfl (by decide)
  obtain ⟨lv, h, g, T⟩ := qa_istore (n := 5) (q := 6) (qa_e rfl h) rfl
  replace g0 := T _ _ g0 (by decide) (Or.inr rfl)
  replace g1 := T _ _ g1 (by decide) (Or.inr rfl)
  replace g2 := T _ _ g2 (by decide) (Or.inr rfl)
  replace g3 := T _ _ g3 (by decide) (Or.inr rfl)
  replace g4 := T _ _ g4 (by decide) (Or.inr rfl)
  have g5 := g
  clear g T
  obtain ⟨r1, er1⟩ : ∃ x, x = (qa_wh (fun s => s) (mc_188_99_p6 N a1 a2 a3 σ) N ((0 : Int32), (0 : Int32))) := ⟨_, rfl⟩
  have L := md_188_99_p6 (l1 := a1) (l2 := a2) (l3 := a3) (σ := σ) (F := f) (N := N) (r := r) hN f N hN (Nat.le_refl f) ((0 : Int32), (0 : Int32)) _ _ hM es g0 g1 g2 g3 g4 g5 h
  rw [← er1] at L
  obtain ⟨lv, M, h, hM, es, g4⟩ := L
  replace h := qa_iload (n := 4) (q := 81) (qa_e rfl h) rfl g4
  have er := qa_ri (qa_e rfl h)
  subst er
  have e0 : ma_188_99 N a1 a2 a3 σ = r1.2 := by exact Eq.trans (qa_ie er1) (rfl)
  rw [e0]
  exact ⟨rfl, hM, es⟩
/-- BuriedBySevensModel, apart, (III)I -/
noncomputable def ma_187_99 (N : Nat) (a1 : Int32) (a2 : Int32) (a3 : Int32) (σ : qa_S) : Int32 × qa_S :=
  qa_in (qa_u σ 99 9 (0 : Int32)) fun m1 =>
  if (ma_171_99 a1 m1) = (0 : Int32) then
    qa_in ((ma_152_99 (-1 : Int32) m1)) fun r3 =>
    (r3.1, r3.2)
  else
    if (ma_163_99 a2 m1) = (0 : Int32) then
      qa_in ((ma_152_99 (-1 : Int32) m1)) fun r5 =>
      (r5.1, r5.2)
    else
      if (ma_163_99 a3 m1) = (0 : Int32) then
        qa_in ((ma_152_99 (-1 : Int32) m1)) fun r7 =>
        (r7.1, r7.2)
      else
        if a2 = a3 then
          qa_in ((ma_152_99 (-1 : Int32) m1)) fun r9 =>
          (r9.1, r9.2)
        else
          qa_in ((ma_181_99 N m1)) fun m10 =>
          qa_in ((ma_188_99 N a1 a2 a3 m10)) fun r11 =>
          ((if r11 = (0 : Int32) then (0 : Int32) else (1 : Int32)), m10)
theorem mb_187_99 {f N : Nat} (hN : f ≤ N) {M : q4_M} {r : Option Value × q4_M} {σ : qa_S} {a1 : Int32} {a2 : Int32} {a3 : Int32} (hM : qa_O M) (es : qa_s M = σ) (h : q4_run f 187 0 (lv_args 0 [.ref 99, .int (a1), .int (a2), .int (a3)]) [] M 0 0 = some r) : r.1 = some (.int ((ma_187_99 N a1 a2 a3 σ).1)) ∧ qa_O r.2 ∧ qa_s r.2 = (ma_187_99 N a1 a2 a3 σ).2 := by
  obtain ⟨lv, el⟩ : ∃ l, l = lv_args 0 [.ref 99, .int (a1), .int (a2), .int (a3)] := ⟨_, rfl⟩
  have g0 : q4_get lv 0 = some (.ref 99) := by rw [el]; rfl
  have g1 : q4_get lv 1 = some (.int (a1)) := by rw [el]; rfl
  have g2 : q4_get lv 2 = some (.int (a2)) := by rw [el]; rfl
  have g3 : q4_get lv 3 = some (.int (a3)) := by rw [el]; rfl
  rw [← el] at h
  clear el
  replace h := qa_aload (n := 0) (q := 1) (qa_e rfl h) rfl g0
  replace h := qa_push (z := (0 : Int32)) (q := 2) (qa_e rfl h) rfl (by decide)
  obtain ⟨m1, em1⟩ : ∃ x, x = qa_u σ 99 9 (0 : Int32) := ⟨_, rfl⟩
  obtain ⟨M, h, hM, es⟩ := qa_pf (j := 9) (q := 5) (qa_e rfl h) rfl hM es rfl (by decide)
  rw [← em1] at es
  replace h := qa_aload (n := 0) (q := 6) (qa_e rfl h) rfl g0
  replace h := qa_iload (n := 1) (q := 7) (qa_e rfl h) rfl g1
  obtain ⟨M, h, hM, es⟩ := qa_c1 (y := 171) (as := [.ref 99, .int (a1)]) (rest := []) (i := .invokevirtual 171) (q := 10) (qa_e rfl h) (Or.inl rfl) rfl rfl (by decide) rfl (fun r hc => mb_171_99 hM es hc)
  by_cases c2 : (ma_171_99 a1 m1) = (0 : Int32)
  · replace h := qa_ict (q := 34) (qa_e rfl h) rfl (qa_T_eq c2)
    replace h := qa_aload (n := 0) (q := 35) (qa_e rfl h) rfl g0
    replace h := qa_push (z := (-1 : Int32)) (q := 36) (qa_e rfl h) rfl (by decide)
    obtain ⟨r3, er3⟩ : ∃ x, x = (ma_152_99 (-1 : Int32) m1) := ⟨_, rfl⟩
    obtain ⟨M, h, hM, es⟩ := qa_c1 (y := 152) (as := [.ref 99, .int ((-1 : Int32))]) (rest := []) (i := .invokevirtual 152) (q := 39) (qa_e rfl h) (Or.inl rfl) rfl rfl (by decide) rfl (fun r hc => mb_152_99 hM es hc)
    rw [← er3] at h es
    have er := qa_ri (qa_e rfl h)
    subst er
    have e0 : ma_187_99 N a1 a2 a3 σ = (r3.1, r3.2) := by exact Eq.trans (qa_ie em1) (Eq.trans (if_pos c2) (Eq.trans (qa_ie er3) (rfl)))
    rw [e0]
    exact ⟨rfl, hM, es⟩
  · replace h := qa_icf (q := 13) (qa_e rfl h) rfl (qa_F_eq c2)
    replace h := qa_aload (n := 0) (q := 14) (qa_e rfl h) rfl g0
    replace h := qa_iload (n := 2) (q := 15) (qa_e rfl h) rfl g2
    obtain ⟨M, h, hM, es⟩ := qa_c1 (y := 163) (as := [.ref 99, .int (a2)]) (rest := []) (i := .invokevirtual 163) (q := 18) (qa_e rfl h) (Or.inl rfl) rfl rfl (by decide) rfl (fun r hc => mb_163_99 hM es hc)
    by_cases c4 : (ma_163_99 a2 m1) = (0 : Int32)
    · replace h := qa_ict (q := 34) (qa_e rfl h) rfl (qa_T_eq c4)
      replace h := qa_aload (n := 0) (q := 35) (qa_e rfl h) rfl g0
      replace h := qa_push (z := (-1 : Int32)) (q := 36) (qa_e rfl h) rfl (by decide)
      obtain ⟨r5, er5⟩ : ∃ x, x = (ma_152_99 (-1 : Int32) m1) := ⟨_, rfl⟩
      obtain ⟨M, h, hM, es⟩ := qa_c1 (y := 152) (as := [.ref 99, .int ((-1 : Int32))]) (rest := []) (i := .invokevirtual 152) (q := 39) (qa_e rfl h) (Or.inl rfl) rfl rfl (by decide) rfl (fun r hc => mb_152_99 hM es hc)
      rw [← er5] at h es
      have er := qa_ri (qa_e rfl h)
      subst er
      have e0 : ma_187_99 N a1 a2 a3 σ = (r5.1, r5.2) := by exact Eq.trans (qa_ie em1) (Eq.trans (if_neg c2) (Eq.trans (if_pos c4) (Eq.trans (qa_ie er5) (rfl))))
      rw [e0]
      exact ⟨rfl, hM, es⟩
    · replace h := qa_icf (q := 21) (qa_e rfl h) rfl (qa_F_eq c4)
      replace h := qa_aload (n := 0) (q := 22) (qa_e rfl h) rfl g0
      replace h := qa_iload (n := 3) (q := 23) (qa_e rfl h) rfl g3
      obtain ⟨M, h, hM, es⟩ := qa_c1 (y := 163) (as := [.ref 99, .int (a3)]) (rest := []) (i := .invokevirtual 163) (q := 26) (qa_e rfl h) (Or.inl rfl) rfl rfl (by decide) rfl (fun r hc => mb_163_99 hM es hc)
      by_cases c6 : (ma_163_99 a3 m1) = (0 : Int32)
      · replace h := qa_ict (q := 34) (qa_e rfl h) rfl (qa_T_eq c6)
        replace h := qa_aload (n := 0) (q := 35) (qa_e rfl h) rfl g0
        replace h := qa_push (z := (-1 : Int32)) (q := 36) (qa_e rfl h) rfl (by decide)
        obtain ⟨r7, er7⟩ : ∃ x, x = (ma_152_99 (-1 : Int32) m1) := ⟨_, rfl⟩
        obtain ⟨M, h, hM, es⟩ := qa_c1 (y := 152) (as := [.ref 99, .int ((-1 : Int32))]) (rest := []) (i := .invokevirtual 152) (q := 39) (qa_e rfl h) (Or.inl rfl) rfl rfl (by decide) rfl (fun r hc => mb_152_99 hM es hc)
        rw [← er7] at h es
        have er := qa_ri (qa_e rfl h)
        subst er
        have e0 : ma_187_99 N a1 a2 a3 σ = (r7.1, r7.2) := by exact Eq.trans (qa_ie em1) (Eq.trans (if_neg c2) (Eq.trans (if_neg c4) (Eq.trans (if_pos c6) (Eq.trans (qa_ie er7) (rfl)))))
        rw [e0]
        exact ⟨rfl, hM, es⟩
      · replace h := qa_icf (q := 29) (qa_e rfl h) rfl (qa_F_eq c6)
        replace h := qa_iload (n := 2) (q := 30) (qa_e rfl h) rfl g2
        replace h := qa_iload (n := 3) (q := 31) (qa_e rfl h) rfl g3
        by_cases c8 : a2 = a3
        · replace h := qa_iff (q := 34) (qa_e rfl h) rfl (qa_F_ne c8)
          replace h := qa_aload (n := 0) (q := 35) (qa_e rfl h) rfl g0
          replace h := qa_push (z := (-1 : Int32)) (q := 36) (qa_e rfl h) rfl (by decide)
          obtain ⟨r9, er9⟩ : ∃ x, x = (ma_152_99 (-1 : Int32) m1) := ⟨_, rfl⟩
          obtain ⟨M, h, hM, es⟩ := qa_c1 (y := 152) (as := [.ref 99, .int ((-1 : Int32))]) (rest := []) (i := .invokevirtual 152) (q := 39) (qa_e rfl h) (Or.inl rfl) rfl rfl (by decide) rfl (fun r hc => mb_152_99 hM es hc)
          rw [← er9] at h es
          have er := qa_ri (qa_e rfl h)
          subst er
          have e0 : ma_187_99 N a1 a2 a3 σ = (r9.1, r9.2) := by exact Eq.trans (qa_ie em1) (Eq.trans (if_neg c2) (Eq.trans (if_neg c4) (Eq.trans (if_neg c6) (Eq.trans (if_pos c8) (Eq.trans (qa_ie er9) (rfl))))))
          rw [e0]
          exact ⟨rfl, hM, es⟩
        · replace h := qa_ift (q := 40) (qa_e rfl h) rfl (qa_T_ne c8)
          replace h := qa_aload (n := 0) (q := 41) (qa_e rfl h) rfl g0
          obtain ⟨m10, em10⟩ : ∃ x, x = (ma_181_99 N m1) := ⟨_, rfl⟩
          obtain ⟨M, h, hM, es⟩ := qa_c0 (y := 181) (as := [.ref 99]) (rest := []) (i := .invokevirtual 181) (q := 44) (qa_e rfl h) (Or.inl rfl) rfl rfl (by decide) rfl (fun r hc => mb_181_99 hN hM es hc)
          rw [← em10] at es
          replace h := qa_aload (n := 0) (q := 45) (qa_e rfl h) rfl g0
          replace h := qa_iload (n := 1) (q := 46) (qa_e rfl h) rfl g1
          replace h := qa_iload (n := 2) (q := 47) (qa_e rfl h) rfl g2
          replace h := qa_iload (n := 3) (q := 48) (qa_e rfl h) rfl g3
          obtain ⟨r11, er11⟩ : ∃ x, x = (ma_188_99 N a1 a2 a3 m10) := ⟨_, rfl⟩
          obtain ⟨M, h, hM, es⟩ := qa_c1 (y := 188) (as := [.ref 99, .int (a1), .int (a2), .int (a3)]) (rest := []) (i := .invokevirtual 188) (q := 51) (qa_e rfl h) (Or.inl rfl) rfl rfl (by decide) rfl (fun r hc => mb_188_99 hN hM es hc)
          rw [← er11] at h
          obtain ⟨lv, M, h, hM, es⟩ : ∃ lv M, q4_run f 187 59 lv [.int ((if r11 = (0 : Int32) then (0 : Int32) else (1 : Int32)))] M 0 0 = some r ∧ qa_O M ∧ qa_s M = m10 := by
            by_cases c12 : r11 = (0 : Int32)
            · replace h := qa_ict (q := 58) (qa_e rfl h) rfl (qa_T_eq c12)
              replace h := qa_push (z := (0 : Int32)) (q := 59) (qa_e rfl h) rfl (by decide)
              exact ⟨lv, M, (qa_hi1 c12 h), hM, es⟩
            · replace h := qa_icf (q := 54) (qa_e rfl h) rfl (qa_F_eq c12)
              replace h := qa_push (z := (1 : Int32)) (q := 55) (qa_e rfl h) rfl (by decide)
              replace h := qa_goto (q := 59) (qa_e rfl h) rfl
              exact ⟨lv, M, (qa_hi0 c12 h), hM, es⟩
          have er := qa_ri (qa_e rfl h)
          subst er
          have e0 : ma_187_99 N a1 a2 a3 σ = ((if r11 = (0 : Int32) then (0 : Int32) else (1 : Int32)), m10) := by exact Eq.trans (qa_ie em1) (Eq.trans (if_neg c2) (Eq.trans (if_neg c4) (Eq.trans (if_neg c6) (Eq.trans (if_neg c8) (Eq.trans (qa_ie em10) (Eq.trans (qa_ie er11) (rfl)))))))
          rw [e0]
          exact ⟨rfl, hM, es⟩
/-- BuriedBySevensModel, everybody, ()I -/
noncomputable def ma_190_99 (σ : qa_S) : Int32 :=
  (((1 : Int32) <<< ((σ 99 5) &&& 31)) - (1 : Int32))
theorem mb_190_99 {f : Nat} {M : q4_M} {r : Option Value × q4_M} {σ : qa_S} (hM : qa_O M) (es : qa_s M = σ) (h : q4_run f 190 0 (lv_args 0 [.ref 99]) [] M 0 0 = some r) : r.1 = some (.int ((ma_190_99 σ))) ∧ qa_O r.2 ∧ qa_s r.2 = σ := by
  obtain ⟨lv, el⟩ : ∃ l, l = lv_args 0 [.ref 99] := ⟨_, rfl⟩
  have g0 : q4_get lv 0 = some (.ref 99) := by rw [el]; rfl
  rw [← el] at h
  clear el
  replace h := qa_push (z := (1 : Int32)) (q := 1) (qa_e rfl h) rfl (by decide)
  replace h := qa_aload (n := 0) (q := 2) (qa_e rfl h) rfl g0
  replace h := qa_gi (j := 5) (q := 5) (qa_e rfl h) rfl hM es rfl (by decide)
  replace h := qa_ishl (q := 6) (qa_e rfl h) rfl
  replace h := qa_push (z := (1 : Int32)) (q := 7) (qa_e rfl h) rfl (by decide)
  replace h := qa_isub (q := 8) (qa_e rfl h) rfl
  have er := qa_ri (qa_e rfl h)
  subst er
  have e0 : ma_190_99 σ = (((1 : Int32) <<< ((σ 99 5) &&& 31)) - (1 : Int32)) := by exact rfl
  rw [e0]
  exact ⟨rfl, hM, es⟩
noncomputable def mc_191_99_p6 (N : Nat) (l1 : Int32) (l2 : Int32) (l3 : Int32) (σ : qa_S) (s : Int32 × Int32) : (Int32 × Int32) ⊕ (Int32 × Int32) :=
  if s.1 < (σ 99 5) then
    qa_in ((ma_188_99 N s.1 l2 l3 σ)) fun r4 =>
    .inl ((s.1 + (1 : Int32)), (if s.2 = (0 : Int32) then (if (ma_185 l1 s.1) = (0 : Int32) then (0 : Int32) else (if r4 = (0 : Int32) then (0 : Int32) else (1 : Int32))) else (1 : Int32)))
  else
    .inr (s.1, s.2)
theorem md_191_99_p6 {N F : Nat} {r : Option Value × q4_M} {l1 : Int32} {l2 : Int32} {l3 : Int32} {σ : qa_S} (hN : F ≤ N) : ∀ f n, f ≤ n → f ≤ F → ∀ (s : Int32 × Int32) (lv : List (Nat × Value)) (M : q4_M), qa_O M → qa_s M = σ → q4_get lv 0 = some (.ref 99) → q4_get lv 1 = some (.int (l1)) → q4_get lv 2 = some (.int (l2)) → q4_get lv 3 = some (.int (l3)) → q4_get lv 4 = some (.int (s.2)) → q4_get lv 5 = some (.int (s.1)) → q4_run f 191 6 lv [] M 0 0 = some r → ∃ lv M, q4_run F 191 53 lv [] M 0 0 = some r ∧ qa_O M ∧ qa_s M = σ ∧ q4_get lv 4 = some (.int ((qa_wh (fun s => s) (mc_191_99_p6 N l1 l2 l3 σ) n s).2)) := by
  intro f
  induction f with
  | zero => intro n _ _ s lv M hM es _ _ _ _ _ _ h; cases h
  | succ f ih =>
    intro n hn hF s lv M hM es g0 g1 g2 g3 g4 g5 h
    obtain ⟨n, rfl⟩ : ∃ n1, n = n1 + 1 := ⟨n - 1, by omega⟩
    replace hn : f ≤ n := Nat.le_of_succ_le_succ hn
    have hN := Nat.le_trans (Nat.le_of_succ_le hF) hN
    replace h := qa_iload (n := 5) (q := 8) (qa_d rfl h) rfl g5
    replace h := qa_aload (n := 0) (q := 9) (qa_e rfl h) rfl g0
    replace h := qa_gi (j := 5) (q := 12) (qa_e rfl h) rfl hM es rfl (by decide)
    by_cases c1 : s.1 < (σ 99 5)
    · replace h := qa_iff (q := 15) (qa_e rfl h) rfl (qa_F_ge c1)
      replace h := qa_iload (n := 4) (q := 17) (qa_e rfl h) rfl g4
      obtain ⟨r4, er4⟩ : ∃ x, x = (ma_188_99 N s.1 l2 l3 σ) := ⟨_, rfl⟩
      obtain ⟨lv, M, h, hM, es, g0, g1, g2, g3, g5⟩ : ∃ lv M, q4_run f 191 45 lv [.int ((if s.2 = (0 : Int32) then (if (ma_185 l1 s.1) = (0 : Int32) then (0 : Int32) else (if r4 = (0 : Int32) then (0 : Int32) else (1 : Int32))) else (1 : Int32)))] M 0 0 = some r ∧ qa_O M ∧ qa_s M = σ ∧ q4_get lv 0 = some (.ref 99) ∧ q4_get lv 1 = some (.int (l1)) ∧ q4_get lv 2 = some (.int (l2)) ∧ q4_get lv 3 = some (.int (l3)) ∧ q4_get lv 5 = some (.int (s.1)) := by
        by_cases c2 : s.2 = (0 : Int32)
        · replace h := qa_icf (q := 20) (qa_e rfl h) rfl (qa_F_ne c2)
          replace h := qa_iload (n := 1) (q := 21) (qa_e rfl h) rfl g1
          replace h := qa_iload (n := 5) (q := 23) (qa_e rfl h) rfl g5
          obtain ⟨M, h, hM, es⟩ := qa_c1 (y := 185) (as := [.int (l1), .int (s.1)]) (rest := []) (i := .invokestatic 185) (q := 26) (qa_e rfl h) (Or.inr rfl) rfl rfl (by decide) rfl (fun r hc => mb_185 hM es hc)
          obtain ⟨lv, M, h, hM, es, g0, g1, g2, g3, g5⟩ : ∃ lv M, q4_run f 191 45 lv [.int ((if (ma_185 l1 s.1) = (0 : Int32) then (0 : Int32) else (if r4 = (0 : Int32) then (0 : Int32) else (1 : Int32))))] M 0 0 = some r ∧ qa_O M ∧ qa_s M = σ ∧ q4_get lv 0 = some (.ref 99) ∧ q4_get lv 1 = some (.int (l1)) ∧ q4_get lv 2 = some (.int (l2)) ∧ q4_get lv 3 = some (.int (l3)) ∧ q4_get lv 5 = some (.int (s.1)) := by
            by_cases c3 : (ma_185 l1 s.1) = (0 : Int32)
            · replace h := qa_ict (q := 44) (qa_e rfl h) rfl (qa_T_eq c3)
              replace h := qa_push (z := (0 : Int32)) (q := 45) (qa_e rfl h) rfl (by decide)
              exact ⟨lv, M, (qa_hi1 c3 h), hM, es, g0, g1, g2, g3, g5⟩
            · replace h := qa_icf (q := 29) (qa_e rfl h) rfl (qa_F_eq c3)
              replace h := qa_aload (n := 0) (q := 30) (qa_e rfl h) rfl g0
              replace h := qa_iload (n := 5) (q := 32) (qa_e rfl h) rfl g5
              replace h := qa_iload (n := 2) (q := 33) (qa_e rfl h) rfl g2
              replace h := qa_iload (n := 3) (q := 34) (qa_e rfl h) rfl g3
              obtain ⟨M, h, hM, es⟩ := qa_c1 (y := 188) (as := [.ref 99, .int (s.1), .int (l2), .int (l3)]) (rest := []) (i := .invokevirtual 188) (q := 37) (qa_e rfl h) (Or.inl rfl) rfl rfl (by decide) rfl (fun r hc => mb_188_99 hN hM es hc)
              rw [← er4] at h
              obtain ⟨lv, M, h, hM, es, g0, g1, g2, g3, g5⟩ : ∃ lv M, q4_run f 191 45 lv [.int ((if r4 = (0 : Int32) then (0 : Int32) else (1 : Int32)))] M 0 0 = some r ∧ qa_O M ∧ qa_s M = σ ∧ q4_get lv 0 = some (.ref 99) ∧ q4_get lv 1 = some (.int (l1)) ∧ q4_get lv 2 = some (.int (l2)) ∧ q4_get lv 3 = some (.int (l3)) ∧ q4_get lv 5 = some (.int (s.1)) := by
                by_cases c5 : r4 = (0 : Int32)
                · replace h := qa_ict (q := 44) (qa_e rfl h) rfl (qa_T_eq c5)
                  replace h := qa_push (z := (0 : Int32)) (q := 45) (qa_e rfl h) rfl (by decide)
                  exact ⟨lv, M, (qa_hi1 c5 h), hM, es, g0, g1, g2, g3, g5⟩
                · replace h := qa_icf (q := 40) (qa_e rfl h) rfl (qa_F_eq c5)
                  replace h := qa_push (z := (1 : Int32)) (q := 41) (qa_e rfl h) rfl (by decide)
                  replace h := qa_goto (q := 45) (qa_e rfl h) rfl
                  exact ⟨lv, M, (qa_hi0 c5 h), hM, es, g0, g1, g2, g3, g5⟩
              exact ⟨lv, M, (qa_hi0 c3 h), hM, es, g0, g1, g2, g3, g5⟩
          exact ⟨lv, M, (qa_hi1 c2 h), hM, es, g0, g1, g2, g3, g5⟩
        · replace h := qa_ict (q := 40) (qa_e rfl h) rfl (qa_T_ne c2)
          replace h := qa_push (z := (1 : Int32)) (q := 41) (qa_e rfl h) rfl (by decide)
          replace h := qa_goto (q := 45) (qa_e rfl h) rfl
          exact ⟨lv, M, (qa_hi0 c2 h), hM, es, g0, g1, g2, g3, g5⟩
      obtain ⟨lv, h, g, T⟩ := qa_istore (n := 4) (q := 47) (qa_e rfl h) rfl
      replace g0 := T _ _ g0 (by decide) (Or.inr rfl)
      replace g1 := T _ _ g1 (by decide) (Or.inr rfl)
      replace g2 := T _ _ g2 (by decide) (Or.inr rfl)
      replace g3 := T _ _ g3 (by decide) (Or.inr rfl)
      replace g5 := T _ _ g5 (by decide) (Or.inr rfl)
      have g4 := g
      clear g T
      obtain ⟨lv, h, g, T⟩ := qa_iinc (n := 5) (z := (1 : Int32)) (q := 50) (qa_e rfl h) rfl (by decide) g5
      replace g0 := T _ _ g0 (by decide) (Or.inr rfl)
      replace g1 := T _ _ g1 (by decide) (Or.inr rfl)
      replace g2 := T _ _ g2 (by decide) (Or.inr rfl)
      replace g3 := T _ _ g3 (by decide) (Or.inr rfl)
      replace g4 := T _ _ g4 (by decide) (Or.inr rfl)
      replace g5 := g
      clear g T
      replace h := qa_goto (q := 6) (qa_e rfl h) rfl
      have e0 : mc_191_99_p6 N l1 l2 l3 σ s = .inl ((s.1 + (1 : Int32)), (if s.2 = (0 : Int32) then (if (ma_185 l1 s.1) = (0 : Int32) then (0 : Int32) else (if r4 = (0 : Int32) then (0 : Int32) else (1 : Int32))) else (1 : Int32))) := by exact Eq.trans (if_pos c1) (Eq.trans (qa_ie er4) (rfl))
      rw [qa_whl e0]
      exact ih n hn (Nat.le_of_succ_le hF) ((s.1 + (1 : Int32)), (if s.2 = (0 : Int32) then (if (ma_185 l1 s.1) = (0 : Int32) then (0 : Int32) else (if r4 = (0 : Int32) then (0 : Int32) else (1 : Int32))) else (1 : Int32))) _ _ hM es g0 g1 g2 g3 g4 g5 h
    · replace h := qa_ift (q := 53) (qa_e rfl h) rfl (qa_T_ge c1)
      have e0 : mc_191_99_p6 N l1 l2 l3 σ s = .inr (s.1, s.2) := by exact Eq.trans (if_neg c1) (rfl)
      rw [qa_whr e0]
      exact ⟨_, _, q61_mono f F _ _ _ _ _ _ _ _ (Nat.le_of_succ_le hF) h, hM, es, g4⟩
