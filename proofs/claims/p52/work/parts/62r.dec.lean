/-- BuriedBySevensModel, substitutes, (I)I -/
noncomputable def ma_238_99 (N : Nat) (a1 : Int32) (σ : qa_S) : Int32 × qa_S :=
  qa_in (qa_u σ 99 9 (0 : Int32)) fun m1 =>
  if (if (ma_163_99 a1 m1) = (0 : Int32) then (-1 : Int32) else (if (m1 103 a1.toNatClampNeg) = (0 : Int32) then (-3 : Int32) else (0 : Int32))) < (0 : Int32) then
    qa_in ((ma_152_99 (if (ma_163_99 a1 m1) = (0 : Int32) then (-1 : Int32) else (if (m1 103 a1.toNatClampNeg) = (0 : Int32) then (-3 : Int32) else (0 : Int32))) m1)) fun r5 =>
    (r5.1, r5.2)
  else
    qa_in ((ma_180_99 N m1)) fun m6 =>
    qa_in ((qa_wh (fun s => s) (mc_238_99_p52 N a1) N ((0 : Int32), (0 : Int32), m6))) fun r7 =>
    (r7.2.1, r7.2.2)
theorem mb_238_99 {f N : Nat} (hN : f ≤ N) {M : q4_M} {r : Option Value × q4_M} {σ : qa_S} {a1 : Int32} (hM : qa_O M) (es : qa_s M = σ) (h : q4_run f 238 0 (lv_args 0 [.ref 99, .int (a1)]) [] M 0 0 = some r) : r.1 = some (.int ((ma_238_99 N a1 σ).1)) ∧ qa_O r.2 ∧ qa_s r.2 = (ma_238_99 N a1 σ).2 := by
  obtain ⟨lv, el⟩ : ∃ l, l = lv_args 0 [.ref 99, .int (a1)] := ⟨_, rfl⟩
  have g0 : q4_get lv 0 = some (.ref 99) := by rw [el]; rfl
  have g1 : q4_get lv 1 = some (.int (a1)) := by rw [el]; rfl
  rw [← el] at h
  clear el
  replace h := qa_aload (n := 0) (q := 1) (qa_e rfl h) rfl g0
  replace h := qa_push (z := (0 : Int32)) (q := 2) (qa_e rfl h) rfl (by decide)
  obtain ⟨m1, em1⟩ : ∃ x, x = qa_u σ 99 9 (0 : Int32) := ⟨_, rfl⟩
  obtain ⟨M, h, hM, es⟩ := qa_pf (j := 9) (q := 5) (qa_e rfl h) rfl hM es rfl (by decide)
  rw [← em1] at es
  replace h := qa_aload (n := 0) (q := 6) (qa_e rfl h) rfl g0
  replace h := qa_iload (n := 1) (q := 7) (qa_e rfl h) rfl g1
  obtain ⟨M, h, hM, es⟩ := qa_c1 (y := 163) (as := [.ref 99, .int (a1)]) (rest := []) (i := .invokevirtual 163) (q := 10) (qa_e rfl h) (Or.inl rfl) rfl rfl (by decide) rfl (fun r hc => mb_163_99 hM es hc)
  obtain ⟨lv, M, h, hM, es, g0, g1⟩ : ∃ lv M, q4_run f 238 32 lv [.int ((if (ma_163_99 a1 m1) = (0 : Int32) then (-1 : Int32) else (if (m1 103 a1.toNatClampNeg) = (0 : Int32) then (-3 : Int32) else (0 : Int32))))] M 0 0 = some r ∧ qa_O M ∧ qa_s M = m1 ∧ q4_get lv 0 = some (.ref 99) ∧ q4_get lv 1 = some (.int (a1)) := by
    by_cases c2 : (ma_163_99 a1 m1) = (0 : Int32)
    · replace h := qa_icf (q := 13) (qa_e rfl h) rfl (qa_F_ne c2)
      replace h := qa_push (z := (-1 : Int32)) (q := 14) (qa_e rfl h) rfl (by decide)
      replace h := qa_goto (q := 32) (qa_e rfl h) rfl
      exact ⟨lv, M, (qa_hi1 c2 h), hM, es, g0, g1⟩
    · replace h := qa_ict (q := 17) (qa_e rfl h) rfl (qa_T_ne c2)
      replace h := qa_aload (n := 0) (q := 18) (qa_e rfl h) rfl g0
      replace h := qa_gr (b := 103) (j := 4) (q := 21) (qa_e rfl h) rfl hM rfl (by decide)
      replace h := qa_iload (n := 1) (q := 22) (qa_e rfl h) rfl g1
      replace h := qa_iaload (jn := a1.toNatClampNeg) (q := 23) (qa_e rfl h) rfl hM es rfl
      obtain ⟨lv, M, h, hM, es, g0, g1⟩ : ∃ lv M, q4_run f 238 32 lv [.int ((if (m1 103 a1.toNatClampNeg) = (0 : Int32) then (-3 : Int32) else (0 : Int32)))] M 0 0 = some r ∧ qa_O M ∧ qa_s M = m1 ∧ q4_get lv 0 = some (.ref 99) ∧ q4_get lv 1 = some (.int (a1)) := by
        by_cases c3 : (m1 103 a1.toNatClampNeg) = (0 : Int32)
        · replace h := qa_icf (q := 26) (qa_e rfl h) rfl (qa_F_ne c3)
          replace h := qa_push (z := (-3 : Int32)) (q := 28) (qa_e rfl h) rfl (by decide)
          replace h := qa_goto (q := 32) (qa_e rfl h) rfl
          exact ⟨lv, M, (qa_hi1 c3 h), hM, es, g0, g1⟩
        · replace h := qa_ict (q := 31) (qa_e rfl h) rfl (qa_T_ne c3)
          replace h := qa_push (z := (0 : Int32)) (q := 32) (qa_e rfl h) rfl (by decide)
          exact ⟨lv, M, (qa_hi0 c3 h), hM, es, g0, g1⟩
      exact ⟨lv, M, (qa_hi0 c2 h), hM, es, g0, g1⟩
  obtain ⟨lv, h, g, T⟩ := qa_istore (n := 2) (q := 33) (qa_e rfl h) rfl
  replace g0 := T _ _ g0 (by decide) (Or.inr rfl)
  replace g1 := T _ _ g1 (by decide) (Or.inr rfl)
  have g2 := g
  clear g T
  replace h := qa_iload (n := 2) (q := 34) (qa_e rfl h) rfl g2
  by_cases c4 : (if (ma_163_99 a1 m1) = (0 : Int32) then (-1 : Int32) else (if (m1 103 a1.toNatClampNeg) = (0 : Int32) then (-3 : Int32) else (0 : Int32))) < (0 : Int32)
  · replace h := qa_icf (q := 37) (qa_e rfl h) rfl (qa_F_ge c4)
    replace h := qa_aload (n := 0) (q := 38) (qa_e rfl h) rfl g0
    replace h := qa_iload (n := 2) (q := 39) (qa_e rfl h) rfl g2
    obtain ⟨r5, er5⟩ : ∃ x, x = (ma_152_99 (if (ma_163_99 a1 m1) = (0 : Int32) then (-1 : Int32) else (if (m1 103 a1.toNatClampNeg) = (0 : Int32) then (-3 : Int32) else (0 : Int32))) m1) := ⟨_, rfl⟩
    obtain ⟨M, h, hM, es⟩ := qa_c1 (y := 152) (as := [.ref 99, .int ((if (ma_163_99 a1 m1) = (0 : Int32) then (-1 : Int32) else (if (m1 103 a1.toNatClampNeg) = (0 : Int32) then (-3 : Int32) else (0 : Int32))))]) (rest := []) (i := .invokevirtual 152) (q := 42) (qa_e rfl h) (Or.inl rfl) rfl rfl (by decide) rfl (fun r hc => mb_152_99 hM es hc)
    rw [← er5] at h es
    have er := qa_ri (qa_e rfl h)
    subst er
    have e0 : ma_238_99 N a1 σ = (r5.1, r5.2) := by exact Eq.trans (qa_ie em1) (Eq.trans (if_pos c4) (Eq.trans (qa_ie er5) (rfl)))
    rw [e0]
    exact ⟨rfl, hM, es⟩
  · replace h := qa_ict (q := 43) (qa_e rfl h) rfl (qa_T_ge c4)
    replace h := qa_aload (n := 0) (q := 44) (qa_e rfl h) rfl g0
    obtain ⟨m6, em6⟩ : ∃ x, x = (ma_180_99 N m1) := ⟨_, rfl⟩
    obtain ⟨M, h, hM, es⟩ := qa_c0 (y := 180) (as := [.ref 99]) (rest := []) (i := .invokevirtual 180) (q := 47) (qa_e rfl h) (Or.inl rfl) rfl rfl (by decide) rfl (fun r hc => mb_180_99 hN hM es hc)
    rw [← em6] at es
    replace h := qa_push (z := (0 : Int32)) (q := 48) (qa_e rfl h) rfl (by decide)
    obtain ⟨lv, h, g, T⟩ := qa_istore (n := 3) (q := 49) (qa_e rfl h) rfl
    replace g0 := T _ _ g0 (by decide) (Or.inr rfl)
    replace g1 := T _ _ g1 (by decide) (Or.inr rfl)
    have g3 := g
    clear g T
    replace h := qa_push (z := (0 : Int32)) (q := 50) (qa_e rfl h) rfl (by decide)
    obtain ⟨lv, h, g, T⟩ := qa_istore (n := 4) (q := 52) (qa_e rfl h) rfl
    replace g0 := T _ _ g0 (by decide) (Or.inr rfl)
    replace g1 := T _ _ g1 (by decide) (Or.inr rfl)
    replace g3 := T _ _ g3 (by decide) (Or.inr rfl)
    have g4 := g
    clear g T
    obtain ⟨r7, er7⟩ : ∃ x, x = (qa_wh (fun s => s) (mc_238_99_p52 N a1) N ((0 : Int32), (0 : Int32), m6)) := ⟨_, rfl⟩
    have L := md_238_99_p52 (l1 := a1) (F := f) (N := N) (r := r) hN f N hN (Nat.le_refl f) ((0 : Int32), (0 : Int32), m6) _ _ hM es g0 g1 g3 g4 h
    rw [← er7] at L
    obtain ⟨lv, M, h, hM, es, g3⟩ := L
    replace h := qa_iload (n := 3) (q := 162) (qa_e rfl h) rfl g3
    have er := qa_ri (qa_e rfl h)
    subst er
    have e0 : ma_238_99 N a1 σ = (r7.2.1, r7.2.2) := by exact Eq.trans (qa_ie em1) (Eq.trans (if_neg c4) (Eq.trans (qa_ie em6) (Eq.trans (qa_ie er7) (rfl))))
    rw [e0]
    exact ⟨rfl, hM, es⟩
noncomputable def mc_239_99_p27 (N : Nat) (l1 : Int32) (σ : qa_S) (s : Int32 × Int32) : (Int32 × Int32) ⊕ (Int32 × Int32) :=
  if s.1 < ((4 : Int32) * (σ 99 0)) then
    .inl ((s.1 + (1 : Int32)), (s.2 + (if (ma_185 (σ 104 l1.toNatClampNeg) (s.1 - s.1 / (4 : Int32) * (4 : Int32))) = (0 : Int32) then (0 : Int32) else (if (ma_186_99 l1 (σ 108 s.1.toNatClampNeg) σ) = (σ 108 s.1.toNatClampNeg) then (1 : Int32) else (0 : Int32)))))
  else
    .inr (s.1, s.2)
theorem md_239_99_p27 {N F : Nat} {r : Option Value × q4_M} {l1 : Int32} {σ : qa_S} (hN : F ≤ N) : ∀ f n, f ≤ n → f ≤ F → ∀ (s : Int32 × Int32) (lv : List (Nat × Value)) (M : q4_M), qa_O M → qa_s M = σ → q4_get lv 0 = some (.ref 99) → q4_get lv 1 = some (.int (l1)) → q4_get lv 2 = some (.int (s.2)) → q4_get lv 3 = some (.int (s.1)) → q4_run f 239 27 lv [] M 0 0 = some r → ∃ lv M, q4_run F 239 86 lv [] M 0 0 = some r ∧ qa_O M ∧ qa_s M = σ ∧ q4_get lv 2 = some (.int ((qa_wh (fun s => s) (mc_239_99_p27 N l1 σ) n s).2)) := by
  intro f
  induction f with
  | zero => intro n _ _ s lv M hM es _ _ _ _ h; cases h
  | succ f ih =>
    intro n hn hF s lv M hM es g0 g1 g2 g3 h
    obtain ⟨n, rfl⟩ : ∃ n1, n = n1 + 1 := ⟨n - 1, by omega⟩
    replace hn : f ≤ n := Nat.le_of_succ_le_succ hn
    have hN := Nat.le_trans (Nat.le_of_succ_le hF) hN
    replace h := qa_iload (n := 3) (q := 28) (qa_d rfl h) rfl g3
    replace h := qa_push (z := (4 : Int32)) (q := 29) (qa_e rfl h) rfl (by decide)
    replace h := qa_aload (n := 0) (q := 30) (qa_e rfl h) rfl g0
    replace h := qa_gi (j := 0) (q := 33) (qa_e rfl h) rfl hM es rfl (by decide)
    replace h := qa_imul (q := 34) (qa_e rfl h) rfl
    by_cases c1 : s.1 < ((4 : Int32) * (σ 99 0))
    · replace h := qa_iff (q := 37) (qa_e rfl h) rfl (qa_F_ge c1)
      replace h := qa_iload (n := 2) (q := 38) (qa_e rfl h) rfl g2
      replace h := qa_aload (n := 0) (q := 39) (qa_e rfl h) rfl g0
      replace h := qa_gr (b := 104) (j := 6) (q := 42) (qa_e rfl h) rfl hM rfl (by decide)
      replace h := qa_iload (n := 1) (q := 43) (qa_e rfl h) rfl g1
      replace h := qa_iaload (jn := l1.toNatClampNeg) (q := 44) (qa_e rfl h) rfl hM es rfl
      replace h := qa_iload (n := 3) (q := 45) (qa_e rfl h) rfl g3
      replace h := qa_push (z := (4 : Int32)) (q := 46) (qa_e rfl h) rfl (by decide)
      replace h := qa_irem (q := 47) (qa_e rfl h) rfl
      obtain ⟨M, h, hM, es⟩ := qa_c1 (y := 185) (as := [.int ((σ 104 l1.toNatClampNeg)), .int ((s.1 - s.1 / (4 : Int32) * (4 : Int32)))]) (rest := [.int (s.2)]) (i := .invokestatic 185) (q := 50) (qa_e rfl h) (Or.inr rfl) rfl rfl (by decide) rfl (fun r hc => mb_185 hM es hc)
      obtain ⟨lv, M, h, hM, es, g0, g1, g3⟩ : ∃ lv M, q4_run f 239 78 lv [.int ((if (ma_185 (σ 104 l1.toNatClampNeg) (s.1 - s.1 / (4 : Int32) * (4 : Int32))) = (0 : Int32) then (0 : Int32) else (if (ma_186_99 l1 (σ 108 s.1.toNatClampNeg) σ) = (σ 108 s.1.toNatClampNeg) then (1 : Int32) else (0 : Int32)))), .int (s.2)] M 0 0 = some r ∧ qa_O M ∧ qa_s M = σ ∧ q4_get lv 0 = some (.ref 99) ∧ q4_get lv 1 = some (.int (l1)) ∧ q4_get lv 3 = some (.int (s.1)) := by
        by_cases c2 : (ma_185 (σ 104 l1.toNatClampNeg) (s.1 - s.1 / (4 : Int32) * (4 : Int32))) = (0 : Int32)
        · replace h := qa_ict (q := 77) (qa_e rfl h) rfl (qa_T_eq c2)
          replace h := qa_push (z := (0 : Int32)) (q := 78) (qa_e rfl h) rfl (by decide)
          exact ⟨lv, M, (qa_hi1 c2 h), hM, es, g0, g1, g3⟩
        · replace h := qa_icf (q := 53) (qa_e rfl h) rfl (qa_F_eq c2)
          replace h := qa_aload (n := 0) (q := 54) (qa_e rfl h) rfl g0
          replace h := qa_iload (n := 1) (q := 55) (qa_e rfl h) rfl g1
          replace h := qa_aload (n := 0) (q := 56) (qa_e rfl h) rfl g0
          replace h := qa_gr (b := 108) (j := 11) (q := 59) (qa_e rfl h) rfl hM rfl (by decide)
          replace h := qa_iload (n := 3) (q := 60) (qa_e rfl h) rfl g3
          replace h := qa_iaload (jn := s.1.toNatClampNeg) (q := 61) (qa_e rfl h) rfl hM es rfl
          obtain ⟨M, h, hM, es⟩ := qa_c1 (y := 186) (as := [.ref 99, .int (l1), .int ((σ 108 s.1.toNatClampNeg))]) (rest := [.int (s.2)]) (i := .invokevirtual 186) (q := 64) (qa_e rfl h) (Or.inl rfl) rfl rfl (by decide) rfl (fun r hc => mb_186_99 hM es hc)
          replace h := qa_aload (n := 0) (q := 65) (qa_e rfl h) rfl g0
          replace h := qa_gr (b := 108) (j := 11) (q := 68) (qa_e rfl h) rfl hM rfl (by decide)
          replace h := qa_iload (n := 3) (q := 69) (qa_e rfl h) rfl g3
          replace h := qa_iaload (jn := s.1.toNatClampNeg) (q := 70) (qa_e rfl h) rfl hM es rfl
          obtain ⟨lv, M, h, hM, es, g0, g1, g3⟩ : ∃ lv M, q4_run f 239 78 lv [.int ((if (ma_186_99 l1 (σ 108 s.1.toNatClampNeg) σ) = (σ 108 s.1.toNatClampNeg) then (1 : Int32) else (0 : Int32))), .int (s.2)] M 0 0 = some r ∧ qa_O M ∧ qa_s M = σ ∧ q4_get lv 0 = some (.ref 99) ∧ q4_get lv 1 = some (.int (l1)) ∧ q4_get lv 3 = some (.int (s.1)) := by
            by_cases c3 : (ma_186_99 l1 (σ 108 s.1.toNatClampNeg) σ) = (σ 108 s.1.toNatClampNeg)
            · replace h := qa_iff (q := 73) (qa_e rfl h) rfl (qa_F_ne c3)
              replace h := qa_push (z := (1 : Int32)) (q := 74) (qa_e rfl h) rfl (by decide)
              replace h := qa_goto (q := 78) (qa_e rfl h) rfl
              exact ⟨lv, M, (qa_hi1 c3 h), hM, es, g0, g1, g3⟩
            · replace h := qa_ift (q := 77) (qa_e rfl h) rfl (qa_T_ne c3)
              replace h := qa_push (z := (0 : Int32)) (q := 78) (qa_e rfl h) rfl (by decide)
              exact ⟨lv, M, (qa_hi0 c3 h), hM, es, g0, g1, g3⟩
          exact ⟨lv, M, (qa_hi0 c2 h), hM, es, g0, g1, g3⟩
      replace h := qa_iadd (q := 79) (qa_e rfl h) rfl
      obtain ⟨lv, h, g, T⟩ := qa_istore (n := 2) (q := 80) (qa_e rfl h) rfl
      replace g0 := T _ _ g0 (by decide) (Or.inr rfl)
      replace g1 := T _ _ g1 (by decide) (Or.inr rfl)
      replace g3 := T _ _ g3 (by decide) (Or.inr rfl)
      have g2 := g
      clear g T
      obtain ⟨lv, h, g, T⟩ := qa_iinc (n := 3) (z := (1 : Int32)) (q := 83) (qa_e rfl h) rfl (by decide) g3
      replace g0 := T _ _ g0 (by decide) (Or.inr rfl)
      replace g1 := T _ _ g1 (by decide) (Or.inr rfl)
      replace g2 := T _ _ g2 (by decide) (Or.inr rfl)
      replace g3 := g
      clear g T
      replace h := qa_goto (q := 27) (qa_e rfl h) rfl
      have e0 : mc_239_99_p27 N l1 σ s = .inl ((s.1 + (1 : Int32)), (s.2 + (if (ma_185 (σ 104 l1.toNatClampNeg) (s.1 - s.1 / (4 : Int32) * (4 : Int32))) = (0 : Int32) then (0 : Int32) else (if (ma_186_99 l1 (σ 108 s.1.toNatClampNeg) σ) = (σ 108 s.1.toNatClampNeg) then (1 : Int32) else (0 : Int32))))) := by exact Eq.trans (if_pos c1) (rfl)
      rw [qa_whl e0]
      exact ih n hn (Nat.le_of_succ_le hF) ((s.1 + (1 : Int32)), (s.2 + (if (ma_185 (σ 104 l1.toNatClampNeg) (s.1 - s.1 / (4 : Int32) * (4 : Int32))) = (0 : Int32) then (0 : Int32) else (if (ma_186_99 l1 (σ 108 s.1.toNatClampNeg) σ) = (σ 108 s.1.toNatClampNeg) then (1 : Int32) else (0 : Int32))))) _ _ hM es g0 g1 g2 g3 h
    · replace h := qa_ift (q := 86) (qa_e rfl h) rfl (qa_T_ge c1)
      have e0 : mc_239_99_p27 N l1 σ s = .inr (s.1, s.2) := by exact Eq.trans (if_neg c1) (rfl)
      rw [qa_whr e0]
      exact ⟨_, _, q61_mono f F _ _ _ _ _ _ _ _ (Nat.le_of_succ_le hF) h, hM, es, g2⟩
/-- BuriedBySevensModel, exact, (I)I -/
noncomputable def ma_239_99 (N : Nat) (a1 : Int32) (σ : qa_S) : Int32 × qa_S :=
  qa_in (qa_u σ 99 9 (0 : Int32)) fun m1 =>
  if (ma_171_99 a1 m1) = (0 : Int32) then
    qa_in ((ma_152_99 (-1 : Int32) m1)) fun r3 =>
    (r3.1, r3.2)
  else
    qa_in ((ma_181_99 N m1)) fun m4 =>
    qa_in ((qa_wh (fun s => s) (mc_239_99_p27 N a1 m4) N ((0 : Int32), (0 : Int32)))) fun r5 =>
    (r5.2, m4)
theorem mb_239_99 {f N : Nat} (hN : f ≤ N) {M : q4_M} {r : Option Value × q4_M} {σ : qa_S} {a1 : Int32} (hM : qa_O M) (es : qa_s M = σ) (h : q4_run f 239 0 (lv_args 0 [.ref 99, .int (a1)]) [] M 0 0 = some r) : r.1 = some (.int ((ma_239_99 N a1 σ).1)) ∧ qa_O r.2 ∧ qa_s r.2 = (ma_239_99 N a1 σ).2 := by
  obtain ⟨lv, el⟩ : ∃ l, l = lv_args 0 [.ref 99, .int (a1)] := ⟨_, rfl⟩
  have g0 : q4_get lv 0 = some (.ref 99) := by rw [el]; rfl
  have g1 : q4_get lv 1 = some (.int (a1)) := by rw [el]; rfl
  rw [← el] at h
  clear el
  replace h := qa_aload (n := 0) (q := 1) (qa_e rfl h) rfl g0
  replace h := qa_push (z := (0 : Int32)) (q := 2) (qa_e rfl h) rfl (by decide)
  obtain ⟨m1, em1⟩ : ∃ x, x = qa_u σ 99 9 (0 : Int32) := ⟨_, rfl⟩
  obtain ⟨M, h, hM, es⟩ := qa_pf (j := 9) (q := 5) (qa_e rfl h) rfl hM es rfl (by decide)
  rw [← em1] at es
  replace h := qa_aload (n := 0) (q := 6) (qa_e rfl h) rfl g0
  replace h := qa_iload (n := 1) (q := 7) (qa_e rfl h) rfl g1
  obtain ⟨M, h, hM, es⟩ := qa_c1 (y := 171) (as := [.ref 99, .int (a1)]) (rest := []) (i := .invokevirtual 171) (q := 10) (qa_e rfl h) (Or.inl rfl) rfl rfl (by decide) rfl (fun r hc => mb_171_99 hM es hc)
  by_cases c2 : (ma_171_99 a1 m1) = (0 : Int32)
  · replace h := qa_icf (q := 13) (qa_e rfl h) rfl (qa_F_ne c2)
    replace h := qa_aload (n := 0) (q := 14) (qa_e rfl h) rfl g0
    replace h := qa_push (z := (-1 : Int32)) (q := 15) (qa_e rfl h) rfl (by decide)
    obtain ⟨r3, er3⟩ : ∃ x, x = (ma_152_99 (-1 : Int32) m1) := ⟨_, rfl⟩
    obtain ⟨M, h, hM, es⟩ := qa_c1 (y := 152) (as := [.ref 99, .int ((-1 : Int32))]) (rest := []) (i := .invokevirtual 152) (q := 18) (qa_e rfl h) (Or.inl rfl) rfl rfl (by decide) rfl (fun r hc => mb_152_99 hM es hc)
    rw [← er3] at h es
    have er := qa_ri (qa_e rfl h)
    subst er
    have e0 : ma_239_99 N a1 σ = (r3.1, r3.2) := by exact Eq.trans (qa_ie em1) (Eq.trans (if_pos c2) (Eq.trans (qa_ie er3) (rfl)))
    rw [e0]
    exact ⟨rfl, hM, es⟩
  · replace h := qa_ict (q := 19) (qa_e rfl h) rfl (qa_T_ne c2)
    replace h := qa_aload (n := 0) (q := 20) (qa_e rfl h) rfl g0
    obtain ⟨m4, em4⟩ : ∃ x, x = (ma_181_99 N m1) := ⟨_, rfl⟩
    obtain ⟨M, h, hM, es⟩ := qa_c0 (y := 181) (as := [.ref 99]) (rest := []) (i := .invokevirtual 181) (q := 23) (qa_e rfl h) (Or.inl rfl) rfl rfl (by decide) rfl (fun r hc => mb_181_99 hN hM es hc)
    rw [← em4] at es
    replace h := qa_push (z := (0 : Int32)) (q := 24) (qa_e rfl h) rfl (by decide)
    obtain ⟨lv, h, g, T⟩ := qa_istore (n := 2) (q := 25) (qa_e rfl h) rfl
    replace g0 := T _ _ g0 (by decide) (Or.inr rfl)
    replace g1 := T _ _ g1 (by decide) (Or.inr rfl)
    have g2 := g
    clear g T
    replace h := qa_push (z := (0 : Int32)) (q := 26) (qa_e rfl h) rfl (by decide)
    obtain ⟨lv, h, g, T⟩ := qa_istore (n := 3) (q := 27) (qa_e rfl h) rfl
    replace g0 := T _ _ g0 (by decide) (Or.inr rfl)
    replace g1 := T _ _ g1 (by decide) (Or.inr rfl)
    replace g2 := T _ _ g2 (by decide) (Or.inr rfl)
    have g3 := g
    clear g T
    obtain ⟨r5, er5⟩ : ∃ x, x = (qa_wh (fun s => s) (mc_239_99_p27 N a1 m4) N ((0 : Int32), (0 : Int32))) := ⟨_, rfl⟩
    have L := md_239_99_p27 (l1 := a1) (σ := m4) (F := f) (N := N) (r := r) hN f N hN (Nat.le_refl f) ((0 : Int32), (0 : Int32)) _ _ hM es g0 g1 g2 g3 h
    rw [← er5] at L
    obtain ⟨lv, M, h, hM, es, g2⟩ := L
    replace h := qa_iload (n := 2) (q := 87) (qa_e rfl h) rfl g2
    have er := qa_ri (qa_e rfl h)
    subst er
    have e0 : ma_239_99 N a1 σ = (r5.2, m4) := by exact Eq.trans (qa_ie em1) (Eq.trans (if_neg c2) (Eq.trans (qa_ie em4) (Eq.trans (qa_ie er5) (rfl))))
    rw [e0]
    exact ⟨rfl, hM, es⟩
noncomputable def mc_240_99_p59 (N : Nat) (l1 : Int32) (l2 : Int32) (l3 : Int32) (l4 : Int32) (s : Int32 × Int32 × qa_S) : (Int32 × Int32 × qa_S) ⊕ (Int32 × Int32 × qa_S) :=
  if (9 : Int32) < s.1 then
    .inr (s.1, s.2.1, s.2.2)
  else
    qa_in (qa_u s.2.2 105 l1.toNatClampNeg s.1) fun m2 =>
    qa_in ((ma_188_99 N l1 l2 l3 m2)) fun r3 =>
    .inl ((s.1 + (1 : Int32)), (if r3 = (0 : Int32) then s.2.1 else s.1), m2)
theorem md_240_99_p59 {N F : Nat} {r : Option Value × q4_M} {l1 : Int32} {l2 : Int32} {l3 : Int32} {l4 : Int32} (hN : F ≤ N) : ∀ f n, f ≤ n → f ≤ F → ∀ (s : Int32 × Int32 × qa_S) (lv : List (Nat × Value)) (M : q4_M), qa_O M → qa_s M = s.2.2 → q4_get lv 0 = some (.ref 99) → q4_get lv 1 = some (.int (l1)) → q4_get lv 2 = some (.int (l2)) → q4_get lv 3 = some (.int (l3)) → q4_get lv 4 = some (.int (l4)) → q4_get lv 5 = some (.int (s.2.1)) → q4_get lv 6 = some (.int (s.1)) → q4_run f 240 59 lv [] M 0 0 = some r → ∃ lv M, q4_run F 240 99 lv [] M 0 0 = some r ∧ qa_O M ∧ qa_s M = (qa_wh (fun s => s) (mc_240_99_p59 N l1 l2 l3 l4) n s).2.2 ∧ q4_get lv 0 = some (.ref 99) ∧ q4_get lv 1 = some (.int (l1)) ∧ q4_get lv 4 = some (.int (l4)) ∧ q4_get lv 5 = some (.int ((qa_wh (fun s => s) (mc_240_99_p59 N l1 l2 l3 l4) n s).2.1)) := by
  intro f
  induction f with
  | zero => intro n _ _ s lv M hM es _ _ _ _ _ _ _ h; cases h
  | succ f ih =>
    intro n hn hF s lv M hM es g0 g1 g2 g3 g4 g5 g6 h
    obtain ⟨n, rfl⟩ : ∃ n1, n = n1 + 1 := ⟨n - 1, by omega⟩
    replace hn : f ≤ n := Nat.le_of_succ_le_succ hn
    have hN := Nat.le_trans (Nat.le_of_succ_le hF) hN
    replace h := qa_iload (n := 6) (q := 61) (qa_d rfl h) rfl g6
    replace h := qa_push (z := (9 : Int32)) (q := 63) (qa_e rfl h) rfl (by decide)
    by_cases c1 : (9 : Int32) < s.1
    · replace h := qa_ift (q := 99) (qa_e rfl h) rfl (qa_T_gt c1)
      have e0 : mc_240_99_p59 N l1 l2 l3 l4 s = .inr (s.1, s.2.1, s.2.2) := by exact Eq.trans (if_pos c1) (rfl)
      rw [qa_whr e0]
      exact ⟨_, _, q61_mono f F _ _ _ _ _ _ _ _ (Nat.le_of_succ_le hF) h, hM, es, g0, g1, g4, g5⟩
    · replace h := qa_iff (q := 66) (qa_e rfl h) rfl (qa_F_gt c1)
      replace h := qa_aload (n := 0) (q := 67) (qa_e rfl h) rfl g0
      replace h := qa_gr (b := 105) (j := 7) (q := 70) (qa_e rfl h) rfl hM rfl (by decide)
      replace h := qa_iload (n := 1) (q := 71) (qa_e rfl h) rfl g1
      replace h := qa_iload (n := 6) (q := 73) (qa_e rfl h) rfl g6
      obtain ⟨m2, em2⟩ : ∃ x, x = qa_u s.2.2 105 l1.toNatClampNeg s.1 := ⟨_, rfl⟩
      obtain ⟨M, h, hM, es⟩ := qa_iastore (jn := l1.toNatClampNeg) (q := 74) (qa_e rfl h) rfl hM es rfl
      rw [← em2] at es
      replace h := qa_aload (n := 0) (q := 75) (qa_e rfl h) rfl g0
      replace h := qa_iload (n := 1) (q := 76) (qa_e rfl h) rfl g1
      replace h := qa_iload (n := 2) (q := 77) (qa_e rfl h) rfl g2
      replace h := qa_iload (n := 3) (q := 78) (qa_e rfl h) rfl g3
      obtain ⟨r3, er3⟩ : ∃ x, x = (ma_188_99 N l1 l2 l3 m2) := ⟨_, rfl⟩
      obtain ⟨M, h, hM, es⟩ := qa_c1 (y := 188) (as := [.ref 99, .int (l1), .int (l2), .int (l3)]) (rest := []) (i := .invokevirtual 188) (q := 81) (qa_e rfl h) (Or.inl rfl) rfl rfl (by decide) rfl (fun r hc => mb_188_99 hN hM es hc)
      rw [← er3] at h
      obtain ⟨lv, M, h, hM, es, g0, g1, g2, g3, g4, g6⟩ : ∃ lv M, q4_run f 240 91 lv [.int ((if r3 = (0 : Int32) then s.2.1 else s.1))] M 0 0 = some r ∧ qa_O M ∧ qa_s M = m2 ∧ q4_get lv 0 = some (.ref 99) ∧ q4_get lv 1 = some (.int (l1)) ∧ q4_get lv 2 = some (.int (l2)) ∧ q4_get lv 3 = some (.int (l3)) ∧ q4_get lv 4 = some (.int (l4)) ∧ q4_get lv 6 = some (.int (s.1)) := by
        by_cases c4 : r3 = (0 : Int32)
        · replace h := qa_ict (q := 89) (qa_e rfl h) rfl (qa_T_eq c4)
          replace h := qa_iload (n := 5) (q := 91) (qa_e rfl h) rfl g5
          exact ⟨lv, M, (qa_hi1 c4 h), hM, es, g0, g1, g2, g3, g4, g6⟩
        · replace h := qa_icf (q := 84) (qa_e rfl h) rfl (qa_F_eq c4)
          replace h := qa_iload (n := 6) (q := 86) (qa_e rfl h) rfl g6
          replace h := qa_goto (q := 91) (qa_e rfl h) rfl
          exact ⟨lv, M, (qa_hi0 c4 h), hM, es, g0, g1, g2, g3, g4, g6⟩
      obtain ⟨lv, h, g, T⟩ := qa_istore (n := 5) (q := 93) (qa_e rfl h) rfl
      replace g0 := T _ _ g0 (by decide) (Or.inr rfl)
      replace g1 := T _ _ g1 (by decide) (Or.inr rfl)
      replace g2 := T _ _ g2 (by decide) (Or.inr rfl)
      replace g3 := T _ _ g3 (by decide) (Or.inr rfl)
      replace g4 := T _ _ g4 (by decide) (Or.inr rfl)
      replace g6 := T _ _ g6 (by decide) (Or.inr rfl)
      have g5 := g
      clear g T
      obtain ⟨lv, h, g, T⟩ := qa_iinc (n := 6) (z := (1 : Int32)) (q := 96) (qa_e rfl h) rfl (by decide) g6
      replace g0 := T _ _ g0 (by decide) (Or.inr rfl)
      replace g1 := T _ _ g1 (by decide) (Or.inr rfl)
      replace g2 := T _ _ g2 (by decide) (Or.inr rfl)
      replace g3 := T _ _ g3 (by decide) (Or.inr rfl)
      replace g4 := T _ _ g4 (by decide) (Or.inr rfl)
      replace g5 := T _ _ g5 (by decide) (Or.inr rfl)
      replace g6 := g
      clear g T
      replace h := qa_goto (q := 59) (qa_e rfl h) rfl
      have e0 : mc_240_99_p59 N l1 l2 l3 l4 s = .inl ((s.1 + (1 : Int32)), (if r3 = (0 : Int32) then s.2.1 else s.1), m2) := by exact Eq.trans (if_neg c1) (Eq.trans (qa_ie em2) (Eq.trans (qa_ie er3) (rfl)))
      rw [qa_whl e0]
      exact ih n hn (Nat.le_of_succ_le hF) ((s.1 + (1 : Int32)), (if r3 = (0 : Int32) then s.2.1 else s.1), m2) _ _ hM es g0 g1 g2 g3 g4 g5 g6 h
/-- BuriedBySevensModel, bluntest, (III)I -/
noncomputable def ma_240_99 (N : Nat) (a1 : Int32) (a2 : Int32) (a3 : Int32) (σ : qa_S) : Int32 × qa_S :=
  qa_in (qa_u σ 99 9 (0 : Int32)) fun m1 =>
  if (ma_171_99 a1 m1) = (0 : Int32) then
    qa_in ((ma_152_99 (-1 : Int32) m1)) fun r3 =>
    (r3.1, r3.2)
  else
    if (ma_163_99 a2 m1) = (0 : Int32) then
      qa_in ((ma_152_99 (-1 : Int32) m1)) fun r5 =>
      (r5.1, r5.2)
    else
      if (ma_163_99 a3 m1) = (0 : Int32) then
        qa_in ((ma_152_99 (-1 : Int32) m1)) fun r7 =>
        (r7.1, r7.2)
      else
        if a2 = a3 then
          qa_in ((ma_152_99 (-1 : Int32) m1)) fun r9 =>
          (r9.1, r9.2)
        else
          qa_in ((ma_181_99 N m1)) fun m10 =>
          qa_in ((qa_wh (fun s => s) (mc_240_99_p59 N a1 a2 a3 (m10 105 a1.toNatClampNeg)) N ((0 : Int32), (-9 : Int32), m10))) fun r11 =>
          qa_in (qa_u r11.2.2 105 a1.toNatClampNeg (m10 105 a1.toNatClampNeg)) fun m12 =>
          (r11.2.1, m12)
theorem mb_240_99 {f N : Nat} (hN : f ≤ N) {M : q4_M} {r : Option Value × q4_M} {σ : qa_S} {a1 : Int32} {a2 : Int32} {a3 : Int32} (hM : qa_O M) (es : qa_s M = σ) (h : q4_run f 240 0 (lv_args 0 [.ref 99, .int (a1), .int (a2), .int (a3)]) [] M 0 0 = some r) : r.1 = some (.int ((ma_240_99 N a1 a2 a3 σ).1)) ∧ qa_O r.2 ∧ qa_s r.2 = (ma_240_99 N a1 a2 a3 σ).2 := by
  obtain ⟨lv, el⟩ : ∃ l, l = lv_args 0 [.ref 99, .int (a1), .int (a2), .int (a3)] := ⟨_, rfl⟩
  have g0 : q4_get lv 0 = some (.ref 99) := by rw [el]; rfl
  have g1 : q4_get lv 1 = some (.int (a1)) := by rw [el]; rfl
  have g2 : q4_get lv 2 = some (.int (a2)) := by rw [el]; rfl
  have g3 : q4_get lv 3 = some (.int (a3)) := by rw [el]; rfl
  rw [← el] at h
  clear el
  replace h := qa_aload (n := 0) (q := 1) (qa_e rfl h) rfl g0
  replace h := qa_push (z := (0 : Int32)) (q := 2) (qa_e rfl h) rfl (by decide)
  obtain ⟨m1, em1⟩ : ∃ x, x = qa_u σ 99 9 (0 : Int32) := ⟨_, rfl⟩
  obtain ⟨M, h, hM, es⟩ := qa_pf (j := 9) (q := 5) (qa_e rfl h) rfl hM es rfl (by decide)
  rw [← em1] at es
  replace h := qa_aload (n := 0) (q := 6) (qa_e rfl h) rfl g0
  replace h := qa_iload (n := 1) (q := 7) (qa_e rfl h) rfl g1
  obtain ⟨M, h, hM, es⟩ := qa_c1 (y := 171) (as := [.ref 99, .int (a1)]) (rest := []) (i := .invokevirtual 171) (q := 10) (qa_e rfl h) (Or.inl rfl) rfl rfl (by decide) rfl (fun r hc => mb_171_99 hM es hc)
  by_cases c2 : (ma_171_99 a1 m1) = (0 : Int32)
  · replace h := qa_ict (q := 34) (qa_e rfl h) rfl (qa_T_eq c2)
    replace h := qa_aload (n := 0) (q := 35) (qa_e rfl h) rfl g0
    replace h := qa_push (z := (-1 : Int32)) (q := 36) (qa_e rfl h) rfl (by decide)
    obtain ⟨r3, er3⟩ : ∃ x, x = (ma_152_99 (-1 : Int32) m1) := ⟨_, rfl⟩
    obtain ⟨M, h, hM, es⟩ := qa_c1 (y := 152) (as := [.ref 99, .int ((-1 : Int32))]) (rest := []) (i := .invokevirtual 152) (q := 39) (qa_e rfl h) (Or.inl rfl) rfl rfl (by decide) rfl (fun r hc => mb_152_99 hM es hc)
    rw [← er3] at h es
    have er := qa_ri (qa_e rfl h)
    subst er
    have e0 : ma_240_99 N a1 a2 a3 σ = (r3.1, r3.2) := by exact Eq.trans (qa_ie em1) (Eq.trans (if_pos c2) (Eq.trans (qa_ie er3) (rfl)))
    rw [e0]
    exact ⟨rfl, hM, es⟩
  · replace h := qa_icf (q := 13) (qa_e rfl h) rfl (qa_F_eq c2)
    replace h := qa_aload (n := 0) (q := 14) (qa_e rfl h) rfl g0
    replace h := qa_iload (n := 2) (q := 15) (qa_e rfl h) rfl g2
    obtain ⟨M, h, hM, es⟩ := qa_c1 (y := 163) (as := [.ref 99, .int (a2)]) (rest := []) (i := .invokevirtual 163) (q := 18) (qa_e rfl h) (Or.inl rfl) rfl rfl (by decide) rfl (fun r hc => mb_163_99 hM es hc)
    by_cases c4 : (ma_163_99 a2 m1) = (0 : Int32)
    · replace h := qa_ict (q := 34) (qa_e rfl h) rfl (qa_T_eq c4)
      replace h := qa_aload (n := 0) (q := 35) (qa_e rfl h) rfl g0
      replace h := qa_push (z := (-1 : Int32)) (q := 36) (qa_e rfl h) rfl (by decide)
      obtain ⟨r5, er5⟩ : ∃ x, x = (ma_152_99 (-1 : Int32) m1) := ⟨_, rfl⟩
      obtain ⟨M, h, hM, es⟩ := qa_c1 (y := 152) (as := [.ref 99, .int ((-1 : Int32))]) (rest := []) (i := .invokevirtual 152) (q := 39) (qa_e rfl h) (Or.inl rfl) rfl rfl (by decide) rfl (fun r hc => mb_152_99 hM es hc)
      rw [← er5] at h es
      have er := qa_ri (qa_e rfl h)
      subst er
      have e0 : ma_240_99 N a1 a2 a3 σ = (r5.1, r5.2) := by exact Eq.trans (qa_ie em1) (Eq.trans (if_neg c2) (Eq.trans (if_pos c4) (Eq.trans (qa_ie er5) (rfl))))
      rw [e0]
      exact ⟨rfl, hM, es⟩
    · replace h := qa_icf (q := 21) (qa_e rfl h) rfl (qa_F_eq c4)
      replace h := qa_aload (n := 0) (q := 22) (qa_e rfl h) rfl g0
      replace h := qa_iload (n := 3) (q := 23) (qa_e rfl h) rfl g3
      obtain ⟨M, h, hM, es⟩ := qa_c1 (y := 163) (as := [.ref 99, .int (a3)]) (rest := []) (i := .invokevirtual 163) (q := 26) (qa_e rfl h) (Or.inl rfl) rfl rfl (by decide) rfl (fun r hc => mb_163_99 hM es hc)
      by_cases c6 : (ma_163_99 a3 m1) = (0 : Int32)
      · replace h := qa_ict (q := 34) (qa_e rfl h) rfl (qa_T_eq c6)
        replace h := qa_aload (n := 0) (q := 35) (qa_e rfl h) rfl g0
        replace h := qa_push (z := (-1 : Int32)) (q := 36) (qa_e rfl h) rfl (by decide)
        obtain ⟨r7, er7⟩ : ∃ x, x = (ma_152_99 (-1 : Int32) m1) := ⟨_, rfl⟩
        obtain ⟨M, h, hM, es⟩ := qa_c1 (y := 152) (as := [.ref 99, .int ((-1 : Int32))]) (rest := []) (i := .invokevirtual 152) (q := 39) (qa_e rfl h) (Or.inl rfl) rfl rfl (by decide) rfl (fun r hc => mb_152_99 hM es hc)
        rw [← er7] at h es
        have er := qa_ri (qa_e rfl h)
        subst er
        have e0 : ma_240_99 N a1 a2 a3 σ = (r7.1, r7.2) := by exact Eq.trans (qa_ie em1) (Eq.trans (if_neg c2) (Eq.trans (if_neg c4) (Eq.trans (if_pos c6) (Eq.trans (qa_ie er7) (rfl)))))
        rw [e0]
        exact ⟨rfl, hM, es⟩
      · replace h := qa_icf (q := 29) (qa_e rfl h) rfl (qa_F_eq c6)
        replace h := qa_iload (n := 2) (q := 30) (qa_e rfl h) rfl g2
        replace h := qa_iload (n := 3) (q := 31) (qa_e rfl h) rfl g3
        by_cases c8 : a2 = a3
        · replace h := qa_iff (q := 34) (qa_e rfl h) rfl (qa_F_ne c8)
          replace h := qa_aload (n := 0) (q := 35) (qa_e rfl h) rfl g0
          replace h := qa_push (z := (-1 : Int32)) (q := 36) (qa_e rfl h) rfl (by decide)
          obtain ⟨r9, er9⟩ : ∃ x, x = (ma_152_99 (-1 : Int32) m1) := ⟨_, rfl⟩
          obtain ⟨M, h, hM, es⟩ := qa_c1 (y := 152) (as := [.ref 99, .int ((-1 : Int32))]) (rest := []) (i := .invokevirtual 152) (q := 39) (qa_e rfl h) (Or.inl rfl) rfl rfl (by decide) rfl (fun r hc => mb_152_99 hM es hc)
          rw [← er9] at h es
          have er := qa_ri (qa_e rfl h)
          subst er
          have e0 : ma_240_99 N a1 a2 a3 σ = (r9.1, r9.2) := by exact Eq.trans (qa_ie em1) (Eq.trans (if_neg c2) (Eq.trans (if_neg c4) (Eq.trans (if_neg c6) (Eq.trans (if_pos c8) (Eq.trans (qa_ie er9) (rfl))))))
          rw [e0]
          exact ⟨rfl, hM, es⟩
        · replace h := qa_ift (q := 40) (qa_e rfl h) rfl (qa_T_ne c8)
          replace h := qa_aload (n := 0) (q := 41) (qa_e rfl h) rfl g0
          obtain ⟨m10, em10⟩ : ∃ x, x = (ma_181_99 N m1) := ⟨_, rfl⟩
          obtain ⟨M, h, hM, es⟩ := qa_c0 (y := 181) (as := [.ref 99]) (rest := []) (i := .invokevirtual 181) (q := 44) (qa_e rfl h) (Or.inl rfl) rfl rfl (by decide) rfl (fun r hc => mb_181_99 hN hM es hc)
          rw [← em10] at es
          replace h := qa_aload (n := 0) (q := 45) (qa_e rfl h) rfl g0
          replace h := qa_gr (b := 105) (j := 7) (q := 48) (qa_e rfl h) rfl hM rfl (by decide)
          replace h := qa_iload (n := 1) (q := 49) (qa_e rfl h) rfl g1
          replace h := qa_iaload (jn := a1.toNatClampNeg) (q := 50) (qa_e rfl h) rfl hM es rfl
          obtain ⟨lv, h, g, T⟩ := qa_istore (n := 4) (q := 52) (qa_e rfl h) rfl
          replace g0 := T _ _ g0 (by decide) (Or.inr rfl)
          replace g1 := T _ _ g1 (by decide) (Or.inr rfl)
          replace g2 := T _ _ g2 (by decide) (Or.inr rfl)
          replace g3 := T _ _ g3 (by decide) (Or.inr rfl)
          have g4 := g
          clear g T
          replace h := qa_push (z := (-9 : Int32)) (q := 54) (qa_e rfl h) rfl (by decide)
          obtain ⟨lv, h, g, T⟩ := qa_istore (n := 5) (q := 56) (qa_e rfl h) rfl
          replace g0 := T _ _ g0 (by decide) (Or.inr rfl)
          replace g1 := T _ _ g1 (by decide) (Or.inr rfl)
          replace g2 := T _ _ g2 (by decide) (Or.inr rfl)
          replace g3 := T _ _ g3 (by decide) (Or.inr rfl)
          replace g4 := T _ _ g4 (by decide) (Or.inr rfl)
          have g5 := g
          clear g T
          replace h := qa_push (z := (0 : Int32)) (q := 57) (qa_e rfl h) rfl (by decide)
          obtain ⟨lv, h, g, T⟩ := qa_istore (n := 6) (q := 59) (qa_e rfl h) rfl
          replace g0 := T _ _ g0 (by decide) (Or.inr rfl)
          replace g1 := T _ _ g1 (by decide) (Or.inr rfl)
          replace g2 := T _ _ g2 (by decide) (Or.inr rfl)
          replace g3 := T _ _ g3 (by decide) (Or.inr rfl)
          replace g4 := T _ _ g4 (by decide) (Or.inr rfl)
          replace g5 := T _ _ g5 (by decide) (Or.inr rfl)
          have g6 := g
          clear g T
          obtain ⟨r11, er11⟩ : ∃ x, x = (qa_wh (fun s => s) (mc_240_99_p59 N a1 a2 a3 (m10 105 a1.toNatClampNeg)) N ((0 : Int32), (-9 : Int32), m10)) := ⟨_, rfl⟩
          have L := md_240_99_p59 (l1 := a1) (l2 := a2) (l3 := a3) (l4 := (m10 105 a1.toNatClampNeg)) (F := f) (N := N) (r := r) hN f N hN (Nat.le_refl f) ((0 : Int32), (-9 : Int32), m10) _ _ hM es g0 g1 g2 g3 g4 g5 g6 h
          rw [← er11] at L
          obtain ⟨lv, M, h, hM, es, g0, g1, g4, g5⟩ := L
          replace h := qa_aload (n := 0) (q := 100) (qa_e rfl h) rfl g0
          replace h := qa_gr (b := 105) (j := 7) (q := 103) (qa_e rfl h) rfl hM rfl (by decide)
          replace h := qa_iload (n := 1) (q := 104) (qa_e rfl h) rfl g1
          replace h := qa_iload (n := 4) (q := 106) (qa_e rfl h) rfl g4
          obtain ⟨m12, em12⟩ : ∃ x, x = qa_u r11.2.2 105 a1.toNatClampNeg (m10 105 a1.toNatClampNeg) := ⟨_, rfl⟩
          obtain ⟨M, h, hM, es⟩ := qa_iastore (jn := a1.toNatClampNeg) (q := 107) (qa_e rfl h) rfl hM es rfl
          rw [← em12] at es
          replace h := qa_iload (n := 5) (q := 109) (qa_e rfl h) rfl g5
          have er := qa_ri (qa_e rfl h)
          subst er
          have e0 : ma_240_99 N a1 a2 a3 σ = (r11.2.1, m12) := by exact Eq.trans (qa_ie em1) (Eq.trans (if_neg c2) (Eq.trans (if_neg c4) (Eq.trans (if_neg c6) (Eq.trans (if_neg c8) (Eq.trans (qa_ie em10) (Eq.trans (qa_ie er11) (Eq.trans (qa_ie em12) (rfl))))))))
          rw [e0]
          exact ⟨rfl, hM, es⟩
noncomputable def mc_241_99_p82 (N : Nat) (l1 : Int32) (l3 : Int32) (l4 : Int32) (l5 : Int32) (l6 : Int32) (σ : qa_S) (s : Int32 × Int32) : (Int32 × Int32) ⊕ (Int32 × Int32) :=
  if s.1 < (4 : Int32) then
    .inl ((s.1 + (1 : Int32)), (s.2 + (ma_227 ((σ 111 s.1.toNatClampNeg) - (σ 122 s.1.toNatClampNeg)))))
  else
    .inr (s.1, s.2)
theorem md_241_99_p82 {N F : Nat} {r : Option Value × q4_M} {l1 : Int32} {l3 : Int32} {l4 : Int32} {l5 : Int32} {l6 : Int32} {σ : qa_S} (hN : F ≤ N) : ∀ f n, f ≤ n → f ≤ F → ∀ (s : Int32 × Int32) (lv : List (Nat × Value)) (M : q4_M), qa_O M → qa_s M = σ → q4_get lv 0 = some (.ref 99) → q4_get lv 1 = some (.int (l1)) → q4_get lv 3 = some (.int (l3)) → q4_get lv 4 = some (.int (l4)) → q4_get lv 5 = some (.int (l5)) → q4_get lv 6 = some (.int (l6)) → q4_get lv 7 = some (.int (s.2)) → q4_get lv 8 = some (.int (s.1)) → q4_run f 241 82 lv [] M 0 0 = some r → ∃ lv M, q4_run F 241 117 lv [] M 0 0 = some r ∧ qa_O M ∧ qa_s M = σ ∧ q4_get lv 0 = some (.ref 99) ∧ q4_get lv 1 = some (.int (l1)) ∧ q4_get lv 3 = some (.int (l3)) ∧ q4_get lv 4 = some (.int (l4)) ∧ q4_get lv 5 = some (.int (l5)) ∧ q4_get lv 6 = some (.int (l6)) ∧ q4_get lv 7 = some (.int ((qa_wh (fun s => s) (mc_241_99_p82 N l1 l3 l4 l5 l6 σ) n s).2)) := by
  intro f
  induction f with
  | zero => intro n _ _ s lv M hM es _ _ _ _ _ _ _ _ h; cases h
  | succ f ih =>
    intro n hn hF s lv M hM es g0 g1 g3 g4 g5 g6 g7 g8 h
    obtain ⟨n, rfl⟩ : ∃ n1, n = n1 + 1 := ⟨n - 1, by omega⟩
    replace hn : f ≤ n := Nat.le_of_succ_le_succ hn
    have hN := Nat.le_trans (Nat.le_of_succ_le hF) hN
    replace h := qa_iload (n := 8) (q := 84) (qa_d rfl h) rfl g8
    replace h := qa_push (z := (4 : Int32)) (q := 85) (qa_e rfl h) rfl (by decide)
    by_cases c1 : s.1 < (4 : Int32)
    · replace h := qa_iff (q := 88) (qa_e rfl h) rfl (qa_F_ge c1)
      replace h := qa_iload (n := 7) (q := 90) (qa_e rfl h) rfl g7
      replace h := qa_aload (n := 0) (q := 91) (qa_e rfl h) rfl g0
      replace h := qa_gr (b := 111) (j := 14) (q := 94) (qa_e rfl h) rfl hM rfl (by decide)
      replace h := qa_iload (n := 8) (q := 96) (qa_e rfl h) rfl g8
      replace h := qa_iaload (jn := s.1.toNatClampNeg) (q := 97) (qa_e rfl h) rfl hM es rfl
      replace h := qa_aload (n := 0) (q := 98) (qa_e rfl h) rfl g0
      replace h := qa_gr (b := 122) (j := 34) (q := 101) (qa_e rfl h) rfl hM rfl (by decide)
      replace h := qa_iload (n := 8) (q := 103) (qa_e rfl h) rfl g8
      replace h := qa_iaload (jn := s.1.toNatClampNeg) (q := 104) (qa_e rfl h) rfl hM es rfl
      replace h := qa_isub (q := 105) (qa_e rfl h) rfl
      obtain ⟨M, h, hM, es⟩ := qa_c1 (y := 227) (as := [.int (((σ 111 s.1.toNatClampNeg) - (σ 122 s.1.toNatClampNeg)))]) (rest := [.int (s.2)]) (i := .invokestatic 227) (q := 108) (qa_e rfl h) (Or.inr rfl) rfl rfl (by decide) rfl (fun r hc => mb_227 hM es hc)
      replace h := qa_iadd (q := 109) (qa_e rfl h) rfl
      obtain ⟨lv, h, g, T⟩ := qa_istore (n := 7) (q := 111) (qa_e rfl h) rfl
      replace g0 := T _ _ g0 (by decide) (Or.inr rfl)
      replace g1 := T _ _ g1 (by decide) (Or.inr rfl)
      replace g3 := T _ _ g3 (by decide) (Or.inr rfl)
      replace g4 := T _ _ g4 (by decide) (Or.inr rfl)
      replace g5 := T _ _ g5 (by decide) (Or.inr rfl)
      replace g6 := T _ _ g6 (by decide) (Or.inr rfl)
      replace g8 := T _ _ g8 (by decide) (Or.inr rfl)
      have g7 := g
      clear g T
      obtain ⟨lv, h, g, T⟩ := qa_iinc (n := 8) (z := (1 : Int32)) (q := 114) (qa_e rfl h) rfl (by decide) g8
      replace g0 := T _ _ g0 (by decide) (Or.inr rfl)
      replace g1 := T _ _ g1 (by decide) (Or.inr rfl)
      replace g3 := T _ _ g3 (by decide) (Or.inr rfl)
      replace g4 := T _ _ g4 (by decide) (Or.inr rfl)
      replace g5 := T _ _ g5 (by decide) (Or.inr rfl)
      replace g6 := T _ _ g6 (by decide) (Or.inr rfl)
      replace g7 := T _ _ g7 (by decide) (Or.inr rfl)
      replace g8 := g
      clear g T
      replace h := qa_goto (q := 82) (qa_e rfl h) rfl
      have e0 : mc_241_99_p82 N l1 l3 l4 l5 l6 σ s = .inl ((s.1 + (1 : Int32)), (s.2 + (ma_227 ((σ 111 s.1.toNatClampNeg) - (σ 122 s.1.toNatClampNeg))))) := by exact Eq.trans (if_pos c1) (rfl)
      rw [qa_whl e0]
      exact ih n hn (Nat.le_of_succ_le hF) ((s.1 + (1 : Int32)), (s.2 + (ma_227 ((σ 111 s.1.toNatClampNeg) - (σ 122 s.1.toNatClampNeg))))) _ _ hM es g0 g1 g3 g4 g5 g6 g7 g8 h
    · replace h := qa_ift (q := 117) (qa_e rfl h) rfl (qa_T_ge c1)
      have e0 : mc_241_99_p82 N l1 l3 l4 l5 l6 σ s = .inr (s.1, s.2) := by exact Eq.trans (if_neg c1) (rfl)
      rw [qa_whr e0]
      exact ⟨_, _, q61_mono f F _ _ _ _ _ _ _ _ (Nat.le_of_succ_le hF) h, hM, es, g0, g1, g3, g4, g5, g6, g7⟩
noncomputable def mc_241_99_p60 (N : Nat) (l1 : Int32) (l3 : Int32) (s : Int32 × Int32 × Int32 × qa_S) : (Int32 × Int32 × Int32 × qa_S) ⊕ (Int32 × Int32 × Int32 × qa_S) :=
  if s.1 < l3 then
    qa_in ((ma_196_99 N s.1 s.2.2.2)) fun m2 =>
    qa_in ((ma_183_99 N m2)) fun m3 =>
    qa_in ((qa_wh (fun s => s) (mc_241_99_p82 N l1 l3 s.2.1 s.2.2.1 s.1 m3) N ((0 : Int32), (0 : Int32)))) fun r4 =>
    .inl ((s.1 + (1 : Int32)), (if (if s.2.1 < (0 : Int32) then (1 : Int32) else (if r4.2 < s.2.2.1 then (1 : Int32) else (0 : Int32))) = (0 : Int32) then s.2.1 else s.1), (if (if s.2.1 < (0 : Int32) then (1 : Int32) else (if r4.2 < s.2.2.1 then (1 : Int32) else (0 : Int32))) = (0 : Int32) then s.2.2.1 else r4.2), m3)
  else
    .inr (s.1, s.2.1, s.2.2.1, s.2.2.2)
theorem md_241_99_p60 {N F : Nat} {r : Option Value × q4_M} {l1 : Int32} {l3 : Int32} (hN : F ≤ N) : ∀ f n, f ≤ n → f ≤ F → ∀ (s : Int32 × Int32 × Int32 × qa_S) (lv : List (Nat × Value)) (M : q4_M), qa_O M → qa_s M = s.2.2.2 → q4_get lv 0 = some (.ref 99) → q4_get lv 1 = some (.int (l1)) → q4_get lv 3 = some (.int (l3)) → q4_get lv 4 = some (.int (s.2.1)) → q4_get lv 5 = some (.int (s.2.2.1)) → q4_get lv 6 = some (.int (s.1)) → q4_run f 241 60 lv [] M 0 0 = some r → ∃ lv M, q4_run F 241 170 lv [] M 0 0 = some r ∧ qa_O M ∧ qa_s M = (qa_wh (fun s => s) (mc_241_99_p60 N l1 l3) n s).2.2.2 ∧ q4_get lv 0 = some (.ref 99) ∧ q4_get lv 1 = some (.int (l1)) ∧ q4_get lv 4 = some (.int ((qa_wh (fun s => s) (mc_241_99_p60 N l1 l3) n s).2.1)) ∧ q4_get lv 5 = some (.int ((qa_wh (fun s => s) (mc_241_99_p60 N l1 l3) n s).2.2.1)) := by
  intro f
  induction f with
  | zero => intro n _ _ s lv M hM es _ _ _ _ _ _ h; cases h
  | succ f ih =>
    intro n hn hF s lv M hM es g0 g1 g3 g4 g5 g6 h
    obtain ⟨n, rfl⟩ : ∃ n1, n = n1 + 1 := ⟨n - 1, by omega⟩
    replace hn : f ≤ n := Nat.le_of_succ_le_succ hn
    have hN := Nat.le_trans (Nat.le_of_succ_le hF) hN
    replace h := qa_iload (n := 6) (q := 62) (qa_d rfl h) rfl g6
    replace h := qa_iload (n := 3) (q := 63) (qa_e rfl h) rfl g3
    by_cases c1 : s.1 < l3
    · replace h := qa_iff (q := 66) (qa_e rfl h) rfl (qa_F_ge c1)
      replace h := qa_aload (n := 0) (q := 67) (qa_e rfl h) rfl g0
      replace h := qa_iload (n := 6) (q := 69) (qa_e rfl h) rfl g6
      obtain ⟨m2, em2⟩ : ∃ x, x = (ma_196_99 N s.1 s.2.2.2) := ⟨_, rfl⟩
      obtain ⟨M, h, hM, es⟩ := qa_c0 (y := 196) (as := [.ref 99, .int (s.1)]) (rest := []) (i := .invokevirtual 196) (q := 72) (qa_e rfl h) (Or.inl rfl) rfl rfl (by decide) rfl (fun r hc => mb_196_99 hN hM es hc)
      rw [← em2] at es
      replace h := qa_aload (n := 0) (q := 73) (qa_e rfl h) rfl g0
      obtain ⟨m3, em3⟩ : ∃ x, x = (ma_183_99 N m2) := ⟨_, rfl⟩
      obtain ⟨M, h, hM, es⟩ := qa_c0 (y := 183) (as := [.ref 99]) (rest := []) (i := .invokevirtual 183) (q := 76) (qa_e rfl h) (Or.inl rfl) rfl rfl (by decide) rfl (fun r hc => mb_183_99 hN hM es hc)
      rw [← em3] at es
      replace h := qa_push (z := (0 : Int32)) (q := 77) (qa_e rfl h) rfl (by decide)
      obtain ⟨lv, h, g, T⟩ := qa_istore (n := 7) (q := 79) (qa_e rfl h) rfl
      replace g0 := T _ _ g0 (by decide) (Or.inr rfl)
      replace g1 := T _ _ g1 (by decide) (Or.inr rfl)
      replace g3 := T _ _ g3 (by decide) (Or.inr rfl)
      replace g4 := T _ _ g4 (by decide) (Or.inr rfl)
      replace g5 := T _ _ g5 (by decide) (Or.inr rfl)
      replace g6 := T _ _ g6 (by decide) (Or.inr rfl)
      have g7 := g
      clear g T
      replace h := qa_push (z := (0 : Int32)) (q := 80) (qa_e rfl h) rfl (by decide)
      obtain ⟨lv, h, g, T⟩ := qa_istore (n := 8) (q := 82) (qa_e rfl h) rfl
      replace g0 := T _ _ g0 (by decide) (Or.inr rfl)
      replace g1 := T _ _ g1 (by decide) (Or.inr rfl)
      replace g3 := T _ _ g3 (by decide) (Or.inr rfl)
      replace g4 := T _ _ g4 (by decide) (Or.inr rfl)
      replace g5 := T _ _ g5 (by decide) (Or.inr rfl)
      replace g6 := T _ _ g6 (by decide) (Or.inr rfl)
      replace g7 := T _ _ g7 (by decide) (Or.inr rfl)
      have g8 := g
      clear g T
      obtain ⟨r4, er4⟩ : ∃ x, x = (qa_wh (fun s => s) (mc_241_99_p82 N l1 l3 s.2.1 s.2.2.1 s.1 m3) N ((0 : Int32), (0 : Int32))) := ⟨_, rfl⟩
      have L := md_241_99_p82 (l1 := l1) (l3 := l3) (l4 := s.2.1) (l5 := s.2.2.1) (l6 := s.1) (σ := m3) (F := f) (N := N) (r := r) hN f N hN (Nat.le_refl f) ((0 : Int32), (0 : Int32)) _ _ hM es g0 g1 g3 g4 g5 g6 g7 g8 h
      rw [← er4] at L
      obtain ⟨lv, M, h, hM, es, g0, g1, g3, g4, g5, g6, g7⟩ := L
      replace h := qa_iload (n := 4) (q := 119) (qa_e rfl h) rfl g4
      obtain ⟨lv, M, h, hM, es, g0, g1, g3, g4, g5, g6, g7⟩ : ∃ lv M, q4_run f 241 134 lv [.int ((if s.2.1 < (0 : Int32) then (1 : Int32) else (if r4.2 < s.2.2.1 then (1 : Int32) else (0 : Int32))))] M 0 0 = some r ∧ qa_O M ∧ qa_s M = m3 ∧ q4_get lv 0 = some (.ref 99) ∧ q4_get lv 1 = some (.int (l1)) ∧ q4_get lv 3 = some (.int (l3)) ∧ q4_get lv 4 = some (.int (s.2.1)) ∧ q4_get lv 5 = some (.int (s.2.2.1)) ∧ q4_get lv 6 = some (.int (s.1)) ∧ q4_get lv 7 = some (.int (r4.2)) := by
        by_cases c5 : s.2.1 < (0 : Int32)
        · replace h := qa_ict (q := 129) (qa_e rfl h) rfl (qa_T_lt c5)
          replace h := qa_push (z := (1 : Int32)) (q := 130) (qa_e rfl h) rfl (by decide)
          replace h := qa_goto (q := 134) (qa_e rfl h) rfl
          exact ⟨lv, M, (qa_hi1 c5 h), hM, es, g0, g1, g3, g4, g5, g6, g7⟩
        · replace h := qa_icf (q := 122) (qa_e rfl h) rfl (qa_F_lt c5)
          replace h := qa_iload (n := 7) (q := 124) (qa_e rfl h) rfl g7
          replace h := qa_iload (n := 5) (q := 126) (qa_e rfl h) rfl g5
          obtain ⟨lv, M, h, hM, es, g0, g1, g3, g4, g5, g6, g7⟩ : ∃ lv M, q4_run f 241 134 lv [.int ((if r4.2 < s.2.2.1 then (1 : Int32) else (0 : Int32)))] M 0 0 = some r ∧ qa_O M ∧ qa_s M = m3 ∧ q4_get lv 0 = some (.ref 99) ∧ q4_get lv 1 = some (.int (l1)) ∧ q4_get lv 3 = some (.int (l3)) ∧ q4_get lv 4 = some (.int (s.2.1)) ∧ q4_get lv 5 = some (.int (s.2.2.1)) ∧ q4_get lv 6 = some (.int (s.1)) ∧ q4_get lv 7 = some (.int (r4.2)) := by
            by_cases c6 : r4.2 < s.2.2.1
            · replace h := qa_iff (q := 129) (qa_e rfl h) rfl (qa_F_ge c6)
              replace h := qa_push (z := (1 : Int32)) (q := 130) (qa_e rfl h) rfl (by decide)
              replace h := qa_goto (q := 134) (qa_e rfl h) rfl
              exact ⟨lv, M, (qa_hi1 c6 h), hM, es, g0, g1, g3, g4, g5, g6, g7⟩
            · replace h := qa_ift (q := 133) (qa_e rfl h) rfl (qa_T_ge c6)
              replace h := qa_push (z := (0 : Int32)) (q := 134) (qa_e rfl h) rfl (by decide)
              exact ⟨lv, M, (qa_hi0 c6 h), hM, es, g0, g1, g3, g4, g5, g6, g7⟩
          exact ⟨lv, M, (qa_hi0 c5 h), hM, es, g0, g1, g3, g4, g5, g6, g7⟩
      obtain ⟨lv, h, g, T⟩ := qa_istore (n := 8) (q := 136) (qa_e rfl h) rfl
      replace g0 := T _ _ g0 (by decide) (Or.inr rfl)
      replace g1 := T _ _ g1 (by decide) (Or.inr rfl)
      replace g3 := T _ _ g3 (by decide) (Or.inr rfl)
      replace g4 := T _ _ g4 (by decide) (Or.inr rfl)
      replace g5 := T _ _ g5 (by decide) (Or.inr rfl)
      replace g6 := T _ _ g6 (by decide) (Or.inr rfl)
      replace g7 := T _ _ g7 (by decide) (Or.inr rfl)
      have g8 := g
      clear g T
      replace h := qa_iload (n := 8) (q := 138) (qa_e rfl h) rfl g8
      obtain ⟨lv, M, h, hM, es, g0, g1, g3, g5, g6, g7, g8⟩ : ∃ lv M, q4_run f 241 148 lv [.int ((if (if s.2.1 < (0 : Int32) then (1 : Int32) else (if r4.2 < s.2.2.1 then (1 : Int32) else (0 : Int32))) = (0 : Int32) then s.2.1 else s.1))] M 0 0 = some r ∧ qa_O M ∧ qa_s M = m3 ∧ q4_get lv 0 = some (.ref 99) ∧ q4_get lv 1 = some (.int (l1)) ∧ q4_get lv 3 = some (.int (l3)) ∧ q4_get lv 5 = some (.int (s.2.2.1)) ∧ q4_get lv 6 = some (.int (s.1)) ∧ q4_get lv 7 = some (.int (r4.2)) ∧ q4_get lv 8 = some (.int ((if s.2.1 < (0 : Int32) then (1 : Int32) else (if r4.2 < s.2.2.1 then (1 : Int32) else (0 : Int32))))) := by
        by_cases c7 : (if s.2.1 < (0 : Int32) then (1 : Int32) else (if r4.2 < s.2.2.1 then (1 : Int32) else (0 : Int32))) = (0 : Int32)
        · replace h := qa_ict (q := 146) (qa_e rfl h) rfl (qa_T_eq c7)
          replace h := qa_iload (n := 4) (q := 148) (qa_e rfl h) rfl g4
          exact ⟨lv, M, (qa_hi1 c7 h), hM, es, g0, g1, g3, g5, g6, g7, g8⟩
        · replace h := qa_icf (q := 141) (qa_e rfl h) rfl (qa_F_eq c7)
          replace h := qa_iload (n := 6) (q := 143) (qa_e rfl h) rfl g6
          replace h := qa_goto (q := 148) (qa_e rfl h) rfl
          exact ⟨lv, M, (qa_hi0 c7 h), hM, es, g0, g1, g3, g5, g6, g7, g8⟩
      obtain ⟨lv, h, g, T⟩ := qa_istore (n := 4) (q := 150) (qa_e rfl h) rfl
      replace g0 := T _ _ g0 (by decide) (Or.inr rfl)
      replace g1 := T _ _ g1 (by decide) (Or.inr rfl)
      replace g3 := T _ _ g3 (by decide) (Or.inr rfl)
      replace g5 := T _ _ g5 (by decide) (Or.inr rfl)
      replace g6 := T _ _ g6 (by decide) (Or.inr rfl)
      replace g7 := T _ _ g7 (by decide) (Or.inr rfl)
      replace g8 := T _ _ g8 (by decide) (Or.inr rfl)
      have g4 := g
      clear g T
      replace h := qa_iload (n := 8) (q := 152) (qa_e rfl h) rfl g8
      obtain ⟨lv, M, h, hM, es, g0, g1, g3, g4, g6⟩ : ∃ lv M, q4_run f 241 162 lv [.int ((if (if s.2.1 < (0 : Int32) then (1 : Int32) else (if r4.2 < s.2.2.1 then (1 : Int32) else (0 : Int32))) = (0 : Int32) then s.2.2.1 else r4.2))] M 0 0 = some r ∧ qa_O M ∧ qa_s M = m3 ∧ q4_get lv 0 = some (.ref 99) ∧ q4_get lv 1 = some (.int (l1)) ∧ q4_get lv 3 = some (.int (l3)) ∧ q4_get lv 4 = some (.int ((if (if s.2.1 < (0 : Int32) then (1 : Int32) else (if r4.2 < s.2.2.1 then (1 : Int32) else (0 : Int32))) = (0 : Int32) then s.2.1 else s.1))) ∧ q4_get lv 6 = some (.int (s.1)) := by
        by_cases c8 : (if s.2.1 < (0 : Int32) then (1 : Int32) else (if r4.2 < s.2.2.1 then (1 : Int32) else (0 : Int32))) = (0 : Int32)
        · replace h := qa_ict (q := 160) (qa_e rfl h) rfl (qa_T_eq c8)
          replace h := qa_iload (n := 5) (q := 162) (qa_e rfl h) rfl g5
          exact ⟨lv, M, (qa_hi1 c8 h), hM, es, g0, g1, g3, g4, g6⟩
        · replace h := qa_icf (q := 155) (qa_e rfl h) rfl (qa_F_eq c8)
          replace h := qa_iload (n := 7) (q := 157) (qa_e rfl h) rfl g7
          replace h := qa_goto (q := 162) (qa_e rfl h) rfl
          exact ⟨lv, M, (qa_hi0 c8 h), hM, es, g0, g1, g3, g4, g6⟩
      obtain ⟨lv, h, g, T⟩ := qa_istore (n := 5) (q := 164) (qa_e rfl h) rfl
      replace g0 := T _ _ g0 (by decide) (Or.inr rfl)
      replace g1 := T _ _ g1 (by decide) (Or.inr rfl)
      replace g3 := T _ _ g3 (by decide) (Or.inr rfl)
      replace g4 := T _ _ g4 (by decide) (Or.inr rfl)
      replace g6 := T _ _ g6 (by decide) (Or.inr rfl)
      have g5 := g
      clear g T
      obtain ⟨lv, h, g, T⟩ := qa_iinc (n := 6) (z := (1 : Int32)) (q := 167) (qa_e rfl h) rfl (by decide) g6
      replace g0 := T _ _ g0 (by decide) (Or.inr rfl)
      replace g1 := T _ _ g1 (by decide) (Or.inr rfl)
      replace g3 := T _ _ g3 (by decide) (Or.inr rfl)
      replace g4 := T _ _ g4 (by decide) (Or.inr rfl)
      replace g5 := T _ _ g5 (by decide) (Or.inr rfl)
      replace g6 := g
      clear g T
      replace h := qa_goto (q := 60) (qa_e rfl h) rfl
      have e0 : mc_241_99_p60 N l1 l3 s = .inl ((s.1 + (1 : Int32)), (if (if s.2.1 < (0 : Int32) then (1 : Int32) else (if r4.2 < s.2.2.1 then (1 : Int32) else (0 : Int32))) = (0 : Int32) then s.2.1 else s.1), (if (if s.2.1 < (0 : Int32) then (1 : Int32) else (if r4.2 < s.2.2.1 then (1 : Int32) else (0 : Int32))) = (0 : Int32) then s.2.2.1 else r4.2), m3) := by exact Eq.trans (if_pos c1) (Eq.trans (qa_ie em2) (Eq.trans (qa_ie em3) (Eq.trans (qa_ie er4) (rfl))))
      rw [qa_whl e0]
      exact ih n hn (Nat.le_of_succ_le hF) ((s.1 + (1 : Int32)), (if (if s.2.1 < (0 : Int32) then (1 : Int32) else (if r4.2 < s.2.2.1 then (1 : Int32) else (0 : Int32))) = (0 : Int32) then s.2.1 else s.1), (if (if s.2.1 < (0 : Int32) then (1 : Int32) else (if r4.2 < s.2.2.1 then (1 : Int32) else (0 : Int32))) = (0 : Int32) then s.2.2.1 else r4.2), m3) _ _ hM es g0 g1 g3 g4 g5 g6 h
    · replace h := qa_ift (q := 170) (qa_e rfl h) rfl (qa_T_ge c1)
      have e0 : mc_241_99_p60 N l1 l3 s = .inr (s.1, s.2.1, s.2.2.1, s.2.2.2) := by exact Eq.trans (if_neg c1) (rfl)
      rw [qa_whr e0]
      exact ⟨_, _, q61_mono f F _ _ _ _ _ _ _ _ (Nat.le_of_succ_le hF) h, hM, es, g0, g1, g4, g5⟩
/-- BuriedBySevensModel, closest, (I)I -/
noncomputable def ma_241_99 (N : Nat) (a1 : Int32) (σ : qa_S) : Int32 × qa_S :=
  qa_in (qa_u σ 99 9 (0 : Int32)) fun m1 =>
  if (if a1 < (-1 : Int32) then (-4 : Int32) else (if (m1 99 35) = (4 : Int32) then (0 : Int32) else (-3 : Int32))) < (0 : Int32) then
    qa_in ((ma_152_99 (if a1 < (-1 : Int32) then (-4 : Int32) else (if (m1 99 35) = (4 : Int32) then (0 : Int32) else (-3 : Int32))) m1)) fun r5 =>
    (r5.1, r5.2)
  else
    qa_in ((ma_181_99 N m1)) fun m6 =>
    qa_in ((ma_195_99 N m6)) fun r7 =>
    qa_in ((qa_wh (fun s => s) (mc_241_99_p60 N a1 r7) N ((1 : Int32), (-9 : Int32), (-9 : Int32), m6))) fun r8 =>
    if a1 < (0 : Int32) then
      ((if a1 < (0 : Int32) then r8.2.2.1 else (-9 : Int32)), r8.2.2.2)
    else
      if r8.2.1 < (0 : Int32) then
        ((if a1 < (0 : Int32) then r8.2.2.1 else (-9 : Int32)), r8.2.2.2)
      else
        if a1 < (r8.2.2.2 99 0) then
          qa_in ((ma_196_99 N r8.2.1 r8.2.2.2)) fun m14 =>
          ((m14 110 a1.toNatClampNeg), m14)
        else
          ((if a1 < (0 : Int32) then r8.2.2.1 else (-9 : Int32)), r8.2.2.2)
theorem mb_241_99 {f N : Nat} (hN : f ≤ N) {M : q4_M} {r : Option Value × q4_M} {σ : qa_S} {a1 : Int32} (hM : qa_O M) (es : qa_s M = σ) (h : q4_run f 241 0 (lv_args 0 [.ref 99, .int (a1)]) [] M 0 0 = some r) : r.1 = some (.int ((ma_241_99 N a1 σ).1)) ∧ qa_O r.2 ∧ qa_s r.2 = (ma_241_99 N a1 σ).2 := by
  obtain ⟨lv, el⟩ : ∃ l, l = lv_args 0 [.ref 99, .int (a1)] := ⟨_, rfl⟩
  have g0 : q4_get lv 0 = some (.ref 99) := by rw [el]; rfl
  have g1 : q4_get lv 1 = some (.int (a1)) := by rw [el]; rfl
  rw [← el] at h
  clear el
  replace h := qa_aload (n := 0) (q := 1) (qa_e rfl h) rfl g0
  replace h := qa_push (z := (0 : Int32)) (q := 2) (qa_e rfl h) rfl (by decide)
  obtain ⟨m1, em1⟩ : ∃ x, x = qa_u σ 99 9 (0 : Int32) := ⟨_, rfl⟩
  obtain ⟨M, h, hM, es⟩ := qa_pf (j := 9) (q := 5) (qa_e rfl h) rfl hM es rfl (by decide)
  rw [← em1] at es
  replace h := qa_iload (n := 1) (q := 6) (qa_e rfl h) rfl g1
  replace h := qa_push (z := (-1 : Int32)) (q := 7) (qa_e rfl h) rfl (by decide)
  obtain ⟨lv, M, h, hM, es, g0, g1⟩ : ∃ lv M, q4_run f 241 29 lv [.int ((if a1 < (-1 : Int32) then (-4 : Int32) else (if (m1 99 35) = (4 : Int32) then (0 : Int32) else (-3 : Int32))))] M 0 0 = some r ∧ qa_O M ∧ qa_s M = m1 ∧ q4_get lv 0 = some (.ref 99) ∧ q4_get lv 1 = some (.int (a1)) := by
    by_cases c2 : a1 < (-1 : Int32)
    · replace h := qa_iff (q := 10) (qa_e rfl h) rfl (qa_F_ge c2)
      replace h := qa_push (z := (-4 : Int32)) (q := 12) (qa_e rfl h) rfl (by decide)
      replace h := qa_goto (q := 29) (qa_e rfl h) rfl
      exact ⟨lv, M, (qa_hi1 c2 h), hM, es, g0, g1⟩
    · replace h := qa_ift (q := 15) (qa_e rfl h) rfl (qa_T_ge c2)
      replace h := qa_aload (n := 0) (q := 16) (qa_e rfl h) rfl g0
      replace h := qa_gi (j := 35) (q := 19) (qa_e rfl h) rfl hM es rfl (by decide)
      replace h := qa_push (z := (4 : Int32)) (q := 20) (qa_e rfl h) rfl (by decide)
      obtain ⟨lv, M, h, hM, es, g0, g1⟩ : ∃ lv M, q4_run f 241 29 lv [.int ((if (m1 99 35) = (4 : Int32) then (0 : Int32) else (-3 : Int32)))] M 0 0 = some r ∧ qa_O M ∧ qa_s M = m1 ∧ q4_get lv 0 = some (.ref 99) ∧ q4_get lv 1 = some (.int (a1)) := by
        by_cases c3 : (m1 99 35) = (4 : Int32)
        · replace h := qa_ift (q := 28) (qa_e rfl h) rfl (qa_T_eq c3)
          replace h := qa_push (z := (0 : Int32)) (q := 29) (qa_e rfl h) rfl (by decide)
          exact ⟨lv, M, (qa_hi1 c3 h), hM, es, g0, g1⟩
        · replace h := qa_iff (q := 23) (qa_e rfl h) rfl (qa_F_eq c3)
          replace h := qa_push (z := (-3 : Int32)) (q := 25) (qa_e rfl h) rfl (by decide)
          replace h := qa_goto (q := 29) (qa_e rfl h) rfl
          exact ⟨lv, M, (qa_hi0 c3 h), hM, es, g0, g1⟩
      exact ⟨lv, M, (qa_hi0 c2 h), hM, es, g0, g1⟩
  obtain ⟨lv, h, g, T⟩ := qa_istore (n := 2) (q := 30) (qa_e rfl h) rfl
  replace g0 := T _ _ g0 (by decide) (Or.inr rfl)
  replace g1 := T _ _ g1 (by decide) (Or.inr rfl)
  have g2 := g
  clear g T
  replace h := qa_iload (n := 2) (q := 31) (qa_e rfl h) rfl g2
  by_cases c4 : (if a1 < (-1 : Int32) then (-4 : Int32) else (if (m1 99 35) = (4 : Int32) then (0 : Int32) else (-3 : Int32))) < (0 : Int32)
  · replace h := qa_icf (q := 34) (qa_e rfl h) rfl (qa_F_ge c4)
    replace h := qa_aload (n := 0) (q := 35) (qa_e rfl h) rfl g0
    replace h := qa_iload (n := 2) (q := 36) (qa_e rfl h) rfl g2
    obtain ⟨r5, er5⟩ : ∃ x, x = (ma_152_99 (if a1 < (-1 : Int32) then (-4 : Int32) else (if (m1 99 35) = (4 : Int32) then (0 : Int32) else (-3 : Int32))) m1) := ⟨_, rfl⟩
    obtain ⟨M, h, hM, es⟩ := qa_c1 (y := 152) (as := [.ref 99, .int ((if a1 < (-1 : Int32) then (-4 : Int32) else (if (m1 99 35) = (4 : Int32) then (0 : Int32) else (-3 : Int32))))]) (rest := []) (i := .invokevirtual 152) (q := 39) (qa_e rfl h) (Or.inl rfl) rfl rfl (by decide) rfl (fun r hc => mb_152_99 hM es hc)
    rw [← er5] at h es
    have er := qa_ri (qa_e rfl h)
    subst er
    have e0 : ma_241_99 N a1 σ = (r5.1, r5.2) := by exact Eq.trans (qa_ie em1) (Eq.trans (if_pos c4) (Eq.trans (qa_ie er5) (rfl)))
    rw [e0]
    exact ⟨rfl, hM, es⟩
  · replace h := qa_ict (q := 40) (qa_e rfl h) rfl (qa_T_ge c4)
    replace h := qa_aload (n := 0) (q := 41) (qa_e rfl h) rfl g0
    obtain ⟨m6, em6⟩ : ∃ x, x = (ma_181_99 N m1) := ⟨_, rfl⟩
    obtain ⟨M, h, hM, es⟩ := qa_c0 (y := 181) (as := [.ref 99]) (rest := []) (i := .invokevirtual 181) (q := 44) (qa_e rfl h) (Or.inl rfl) rfl rfl (by decide) rfl (fun r hc => mb_181_99 hN hM es hc)
    rw [← em6] at es
    replace h := qa_aload (n := 0) (q := 45) (qa_e rfl h) rfl g0
    obtain ⟨r7, er7⟩ : ∃ x, x = (ma_195_99 N m6) := ⟨_, rfl⟩
    obtain ⟨M, h, hM, es⟩ := qa_c1 (y := 195) (as := [.ref 99]) (rest := []) (i := .invokevirtual 195) (q := 48) (qa_e rfl h) (Or.inl rfl) rfl rfl (by decide) rfl (fun r hc => mb_195_99 hN hM es hc)
    rw [← er7] at h
    obtain ⟨lv, h, g, T⟩ := qa_istore (n := 3) (q := 49) (qa_e rfl h) rfl
    replace g0 := T _ _ g0 (by decide) (Or.inr rfl)
    replace g1 := T _ _ g1 (by decide) (Or.inr rfl)
    have g3 := g
    clear g T
    replace h := qa_push (z := (-9 : Int32)) (q := 51) (qa_e rfl h) rfl (by decide)
    obtain ⟨lv, h, g, T⟩ := qa_istore (n := 4) (q := 53) (qa_e rfl h) rfl
    replace g0 := T _ _ g0 (by decide) (Or.inr rfl)
    replace g1 := T _ _ g1 (by decide) (Or.inr rfl)
    replace g3 := T _ _ g3 (by decide) (Or.inr rfl)
    have g4 := g
    clear g T
    replace h := qa_push (z := (-9 : Int32)) (q := 55) (qa_e rfl h) rfl (by decide)
    obtain ⟨lv, h, g, T⟩ := qa_istore (n := 5) (q := 57) (qa_e rfl h) rfl
    replace g0 := T _ _ g0 (by decide) (Or.inr rfl)
    replace g1 := T _ _ g1 (by decide) (Or.inr rfl)
    replace g3 := T _ _ g3 (by decide) (Or.inr rfl)
    replace g4 := T _ _ g4 (by decide) (Or.inr rfl)
    have g5 := g
    clear g T
    replace h := qa_push (z := (1 : Int32)) (q := 58) (qa_e rfl h) rfl (by decide)
    obtain ⟨lv, h, g, T⟩ := qa_istore (n := 6) (q := 60) (qa_e rfl h) rfl
    replace g0 := T _ _ g0 (by decide) (Or.inr rfl)
    replace g1 := T _ _ g1 (by decide) (Or.inr rfl)
    replace g3 := T _ _ g3 (by decide) (Or.inr rfl)
    replace g4 := T _ _ g4 (by decide) (Or.inr rfl)
    replace g5 := T _ _ g5 (by decide) (Or.inr rfl)
    have g6 := g
    clear g T
    obtain ⟨r8, er8⟩ : ∃ x, x = (qa_wh (fun s => s) (mc_241_99_p60 N a1 r7) N ((1 : Int32), (-9 : Int32), (-9 : Int32), m6)) := ⟨_, rfl⟩
    have L := md_241_99_p60 (l1 := a1) (l3 := r7) (F := f) (N := N) (r := r) hN f N hN (Nat.le_refl f) ((1 : Int32), (-9 : Int32), (-9 : Int32), m6) _ _ hM es g0 g1 g3 g4 g5 g6 h
    rw [← er8] at L
    obtain ⟨lv, M, h, hM, es, g0, g1, g4, g5⟩ := L
    replace h := qa_iload (n := 1) (q := 171) (qa_e rfl h) rfl g1
    by_cases c9 : a1 < (0 : Int32)
    · replace h := qa_ict (q := 187) (qa_e rfl h) rfl (qa_T_lt c9)
      replace h := qa_iload (n := 1) (q := 188) (qa_e rfl h) rfl g1
      obtain ⟨lv, M, h, hM, es⟩ : ∃ lv M, q4_run f 241 198 lv [.int ((if a1 < (0 : Int32) then r8.2.2.1 else (-9 : Int32)))] M 0 0 = some r ∧ qa_O M ∧ qa_s M = r8.2.2.2 := by
        by_cases c10 : a1 < (0 : Int32)
        · replace h := qa_icf (q := 191) (qa_e rfl h) rfl (qa_F_ge c10)
          replace h := qa_iload (n := 5) (q := 193) (qa_e rfl h) rfl g5
          replace h := qa_goto (q := 198) (qa_e rfl h) rfl
          exact ⟨lv, M, (qa_hi1 c10 h), hM, es⟩
        · replace h := qa_ict (q := 196) (qa_e rfl h) rfl (qa_T_ge c10)
          replace h := qa_push (z := (-9 : Int32)) (q := 198) (qa_e rfl h) rfl (by decide)
          exact ⟨lv, M, (qa_hi0 c10 h), hM, es⟩
      have er := qa_ri (qa_e rfl h)
      subst er
      have e0 : ma_241_99 N a1 σ = ((if a1 < (0 : Int32) then r8.2.2.1 else (-9 : Int32)), r8.2.2.2) := by exact Eq.trans (qa_ie em1) (Eq.trans (if_neg c4) (Eq.trans (qa_ie em6) (Eq.trans (qa_ie er7) (Eq.trans (qa_ie er8) (Eq.trans (if_pos c9) (rfl))))))
      rw [e0]
      exact ⟨rfl, hM, es⟩
    · replace h := qa_icf (q := 174) (qa_e rfl h) rfl (qa_F_lt c9)
      replace h := qa_iload (n := 4) (q := 176) (qa_e rfl h) rfl g4
      by_cases c11 : r8.2.1 < (0 : Int32)
      · replace h := qa_ict (q := 187) (qa_e rfl h) rfl (qa_T_lt c11)
        replace h := qa_iload (n := 1) (q := 188) (qa_e rfl h) rfl g1
        obtain ⟨lv, M, h, hM, es⟩ : ∃ lv M, q4_run f 241 198 lv [.int ((if a1 < (0 : Int32) then r8.2.2.1 else (-9 : Int32)))] M 0 0 = some r ∧ qa_O M ∧ qa_s M = r8.2.2.2 := by
          by_cases c12 : a1 < (0 : Int32)
          · replace h := qa_icf (q := 191) (qa_e rfl h) rfl (qa_F_ge c12)
            replace h := qa_iload (n := 5) (q := 193) (qa_e rfl h) rfl g5
            replace h := qa_goto (q := 198) (qa_e rfl h) rfl
            exact ⟨lv, M, (qa_hi1 c12 h), hM, es⟩
          · replace h := qa_ict (q := 196) (qa_e rfl h) rfl (qa_T_ge c12)
            replace h := qa_push (z := (-9 : Int32)) (q := 198) (qa_e rfl h) rfl (by decide)
            exact ⟨lv, M, (qa_hi0 c12 h), hM, es⟩
        have er := qa_ri (qa_e rfl h)
        subst er
        have e0 : ma_241_99 N a1 σ = ((if a1 < (0 : Int32) then r8.2.2.1 else (-9 : Int32)), r8.2.2.2) := by exact Eq.trans (qa_ie em1) (Eq.trans (if_neg c4) (Eq.trans (qa_ie em6) (Eq.trans (qa_ie er7) (Eq.trans (qa_ie er8) (Eq.trans (if_neg c9) (Eq.trans (if_pos c11) (rfl)))))))
        rw [e0]
        exact ⟨rfl, hM, es⟩
      · replace h := qa_icf (q := 179) (qa_e rfl h) rfl (qa_F_lt c11)
        replace h := qa_iload (n := 1) (q := 180) (qa_e rfl h) rfl g1
        replace h := qa_aload (n := 0) (q := 181) (qa_e rfl h) rfl g0
        replace h := qa_gi (j := 0) (q := 184) (qa_e rfl h) rfl hM es rfl (by decide)
        by_cases c13 : a1 < (r8.2.2.2 99 0)
        · replace h := qa_ift (q := 199) (qa_e rfl h) rfl (qa_T_lt c13)
          replace h := qa_aload (n := 0) (q := 200) (qa_e rfl h) rfl g0
          replace h := qa_iload (n := 4) (q := 202) (qa_e rfl h) rfl g4
          obtain ⟨m14, em14⟩ : ∃ x, x = (ma_196_99 N r8.2.1 r8.2.2.2) := ⟨_, rfl⟩
          obtain ⟨M, h, hM, es⟩ := qa_c0 (y := 196) (as := [.ref 99, .int (r8.2.1)]) (rest := []) (i := .invokevirtual 196) (q := 205) (qa_e rfl h) (Or.inl rfl) rfl rfl (by decide) rfl (fun r hc => mb_196_99 hN hM es hc)
          rw [← em14] at es
          replace h := qa_aload (n := 0) (q := 206) (qa_e rfl h) rfl g0
          replace h := qa_gr (b := 110) (j := 13) (q := 209) (qa_e rfl h) rfl hM rfl (by decide)
          replace h := qa_iload (n := 1) (q := 210) (qa_e rfl h) rfl g1
          replace h := qa_iaload (jn := a1.toNatClampNeg) (q := 211) (qa_e rfl h) rfl hM es rfl
          have er := qa_ri (qa_e rfl h)
          subst er
          have e0 : ma_241_99 N a1 σ = ((m14 110 a1.toNatClampNeg), m14) := by exact Eq.trans (qa_ie em1) (Eq.trans (if_neg c4) (Eq.trans (qa_ie em6) (Eq.trans (qa_ie er7) (Eq.trans (qa_ie er8) (Eq.trans (if_neg c9) (Eq.trans (if_neg c11) (Eq.trans (if_pos c13) (Eq.trans (qa_ie em14) (rfl)))))))))
          rw [e0]
          exact ⟨rfl, hM, es⟩
        · replace h := qa_iff (q := 187) (qa_e rfl h) rfl (qa_F_lt c13)
          replace h := qa_iload (n := 1) (q := 188) (qa_e rfl h) rfl g1
          obtain ⟨lv, M, h, hM, es⟩ : ∃ lv M, q4_run f 241 198 lv [.int ((if a1 < (0 : Int32) then r8.2.2.1 else (-9 : Int32)))] M 0 0 = some r ∧ qa_O M ∧ qa_s M = r8.2.2.2 := by
            by_cases c15 : a1 < (0 : Int32)
            · replace h := qa_icf (q := 191) (qa_e rfl h) rfl (qa_F_ge c15)
              replace h := qa_iload (n := 5) (q := 193) (qa_e rfl h) rfl g5
              replace h := qa_goto (q := 198) (qa_e rfl h) rfl
              exact ⟨lv, M, (qa_hi1 c15 h), hM, es⟩
            · replace h := qa_ict (q := 196) (qa_e rfl h) rfl (qa_T_ge c15)
              replace h := qa_push (z := (-9 : Int32)) (q := 198) (qa_e rfl h) rfl (by decide)
              exact ⟨lv, M, (qa_hi0 c15 h), hM, es⟩
          have er := qa_ri (qa_e rfl h)
          subst er
          have e0 : ma_241_99 N a1 σ = ((if a1 < (0 : Int32) then r8.2.2.1 else (-9 : Int32)), r8.2.2.2) := by exact Eq.trans (qa_ie em1) (Eq.trans (if_neg c4) (Eq.trans (qa_ie em6) (Eq.trans (qa_ie er7) (Eq.trans (qa_ie er8) (Eq.trans (if_neg c9) (Eq.trans (if_neg c11) (Eq.trans (if_neg c13) (rfl))))))))
          rw [e0]
          exact ⟨rfl, hM, es⟩
noncomputable def mc_242_99_p35 (N : Nat) (l1 : Int32) (l2 : Int32) (σ : qa_S) (s : Int32 × Int32) : (Int32 × Int32) ⊕ (Int32 × Int32) :=
  if s.1 < (σ 99 0) then
    .inl ((s.1 + (1 : Int32)), (s.2 + (if (ma_216_99 l2 σ) < (ma_216_99 s.1 σ) then (1 : Int32) else (if (ma_216_99 s.1 σ) = (ma_216_99 l2 σ) then (if s.1 < l2 then (1 : Int32) else (0 : Int32)) else (0 : Int32)))))
  else
    .inr (s.1, s.2)
theorem md_242_99_p35 {N F : Nat} {r : Option Value × q4_M} {l1 : Int32} {l2 : Int32} {σ : qa_S} (hN : F ≤ N) : ∀ f n, f ≤ n → f ≤ F → ∀ (s : Int32 × Int32) (lv : List (Nat × Value)) (M : q4_M), qa_O M → qa_s M = σ → q4_get lv 0 = some (.ref 99) → q4_get lv 1 = some (.int (l1)) → q4_get lv 2 = some (.int (l2)) → q4_get lv 3 = some (.int (s.2)) → q4_get lv 4 = some (.int (s.1)) → q4_run f 242 35 lv [] M 0 0 = some r → ∃ lv M, q4_run F 242 92 lv [] M 0 0 = some r ∧ qa_O M ∧ qa_s M = σ ∧ q4_get lv 0 = some (.ref 99) ∧ q4_get lv 1 = some (.int (l1)) ∧ q4_get lv 2 = some (.int (l2)) ∧ q4_get lv 3 = some (.int ((qa_wh (fun s => s) (mc_242_99_p35 N l1 l2 σ) n s).2)) := by
  intro f
  induction f with
  | zero => intro n _ _ s lv M hM es _ _ _ _ _ h; cases h
  | succ f ih =>
    intro n hn hF s lv M hM es g0 g1 g2 g3 g4 h
    obtain ⟨n, rfl⟩ : ∃ n1, n = n1 + 1 := ⟨n - 1, by omega⟩
    replace hn : f ≤ n := Nat.le_of_succ_le_succ hn
    have hN := Nat.le_trans (Nat.le_of_succ_le hF) hN
    replace h := qa_iload (n := 4) (q := 37) (qa_d rfl h) rfl g4
    replace h := qa_aload (n := 0) (q := 38) (qa_e rfl h) rfl g0
    replace h := qa_gi (j := 0) (q := 41) (qa_e rfl h) rfl hM es rfl (by decide)
    by_cases c1 : s.1 < (σ 99 0)
    · replace h := qa_iff (q := 44) (qa_e rfl h) rfl (qa_F_ge c1)
      replace h := qa_iload (n := 3) (q := 45) (qa_e rfl h) rfl g3
      replace h := qa_aload (n := 0) (q := 46) (qa_e rfl h) rfl g0
      replace h := qa_iload (n := 4) (q := 48) (qa_e rfl h) rfl g4
      obtain ⟨M, h, hM, es⟩ := qa_c1 (y := 216) (as := [.ref 99, .int (s.1)]) (rest := [.int (s.2)]) (i := .invokevirtual 216) (q := 51) (qa_e rfl h) (Or.inl rfl) rfl rfl (by decide) rfl (fun r hc => mb_216_99 hM es hc)
      replace h := qa_aload (n := 0) (q := 52) (qa_e rfl h) rfl g0
      replace h := qa_iload (n := 2) (q := 53) (qa_e rfl h) rfl g2
      obtain ⟨M, h, hM, es⟩ := qa_c1 (y := 216) (as := [.ref 99, .int (l2)]) (rest := [.int ((ma_216_99 s.1 σ)), .int (s.2)]) (i := .invokevirtual 216) (q := 56) (qa_e rfl h) (Or.inl rfl) rfl rfl (by decide) rfl (fun r hc => mb_216_99 hM es hc)
      obtain ⟨lv, M, h, hM, es, g0, g1, g2, g4⟩ : ∃ lv M, q4_run f 242 84 lv [.int ((if (ma_216_99 l2 σ) < (ma_216_99 s.1 σ) then (1 : Int32) else (if (ma_216_99 s.1 σ) = (ma_216_99 l2 σ) then (if s.1 < l2 then (1 : Int32) else (0 : Int32)) else (0 : Int32)))), .int (s.2)] M 0 0 = some r ∧ qa_O M ∧ qa_s M = σ ∧ q4_get lv 0 = some (.ref 99) ∧ q4_get lv 1 = some (.int (l1)) ∧ q4_get lv 2 = some (.int (l2)) ∧ q4_get lv 4 = some (.int (s.1)) := by
        by_cases c2 : (ma_216_99 l2 σ) < (ma_216_99 s.1 σ)
        · replace h := qa_ift (q := 79) (qa_e rfl h) rfl (qa_T_gt c2)
          replace h := qa_push (z := (1 : Int32)) (q := 80) (qa_e rfl h) rfl (by decide)
          replace h := qa_goto (q := 84) (qa_e rfl h) rfl
          exact ⟨lv, M, (qa_hi1 c2 h), hM, es, g0, g1, g2, g4⟩
        · replace h := qa_iff (q := 59) (qa_e rfl h) rfl (qa_F_gt c2)
          replace h := qa_aload (n := 0) (q := 60) (qa_e rfl h) rfl g0
          replace h := qa_iload (n := 4) (q := 62) (qa_e rfl h) rfl g4
          obtain ⟨M, h, hM, es⟩ := qa_c1 (y := 216) (as := [.ref 99, .int (s.1)]) (rest := [.int (s.2)]) (i := .invokevirtual 216) (q := 65) (qa_e rfl h) (Or.inl rfl) rfl rfl (by decide) rfl (fun r hc => mb_216_99 hM es hc)
          replace h := qa_aload (n := 0) (q := 66) (qa_e rfl h) rfl g0
          replace h := qa_iload (n := 2) (q := 67) (qa_e rfl h) rfl g2
          obtain ⟨M, h, hM, es⟩ := qa_c1 (y := 216) (as := [.ref 99, .int (l2)]) (rest := [.int ((ma_216_99 s.1 σ)), .int (s.2)]) (i := .invokevirtual 216) (q := 70) (qa_e rfl h) (Or.inl rfl) rfl rfl (by decide) rfl (fun r hc => mb_216_99 hM es hc)
          obtain ⟨lv, M, h, hM, es, g0, g1, g2, g4⟩ : ∃ lv M, q4_run f 242 84 lv [.int ((if (ma_216_99 s.1 σ) = (ma_216_99 l2 σ) then (if s.1 < l2 then (1 : Int32) else (0 : Int32)) else (0 : Int32))), .int (s.2)] M 0 0 = some r ∧ qa_O M ∧ qa_s M = σ ∧ q4_get lv 0 = some (.ref 99) ∧ q4_get lv 1 = some (.int (l1)) ∧ q4_get lv 2 = some (.int (l2)) ∧ q4_get lv 4 = some (.int (s.1)) := by
            by_cases c3 : (ma_216_99 s.1 σ) = (ma_216_99 l2 σ)
            · replace h := qa_iff (q := 73) (qa_e rfl h) rfl (qa_F_ne c3)
              replace h := qa_iload (n := 4) (q := 75) (qa_e rfl h) rfl g4
              replace h := qa_iload (n := 2) (q := 76) (qa_e rfl h) rfl g2
              obtain ⟨lv, M, h, hM, es, g0, g1, g2, g4⟩ : ∃ lv M, q4_run f 242 84 lv [.int ((if s.1 < l2 then (1 : Int32) else (0 : Int32))), .int (s.2)] M 0 0 = some r ∧ qa_O M ∧ qa_s M = σ ∧ q4_get lv 0 = some (.ref 99) ∧ q4_get lv 1 = some (.int (l1)) ∧ q4_get lv 2 = some (.int (l2)) ∧ q4_get lv 4 = some (.int (s.1)) := by
                by_cases c4 : s.1 < l2
                · replace h := qa_iff (q := 79) (qa_e rfl h) rfl (qa_F_ge c4)
                  replace h := qa_push (z := (1 : Int32)) (q := 80) (qa_e rfl h) rfl (by decide)
                  replace h := qa_goto (q := 84) (qa_e rfl h) rfl
                  exact ⟨lv, M, (qa_hi1 c4 h), hM, es, g0, g1, g2, g4⟩
                · replace h := qa_ift (q := 83) (qa_e rfl h) rfl (qa_T_ge c4)
                  replace h := qa_push (z := (0 : Int32)) (q := 84) (qa_e rfl h) rfl (by decide)
                  exact ⟨lv, M, (qa_hi0 c4 h), hM, es, g0, g1, g2, g4⟩
              exact ⟨lv, M, (qa_hi1 c3 h), hM, es, g0, g1, g2, g4⟩
            · replace h := qa_ift (q := 83) (qa_e rfl h) rfl (qa_T_ne c3)
              replace h := qa_push (z := (0 : Int32)) (q := 84) (qa_e rfl h) rfl (by decide)
              exact ⟨lv, M, (qa_hi0 c3 h), hM, es, g0, g1, g2, g4⟩
          exact ⟨lv, M, (qa_hi0 c2 h), hM, es, g0, g1, g2, g4⟩
      replace h := qa_iadd (q := 85) (qa_e rfl h) rfl
      obtain ⟨lv, h, g, T⟩ := qa_istore (n := 3) (q := 86) (qa_e rfl h) rfl
      replace g0 := T _ _ g0 (by decide) (Or.inr rfl)
      replace g1 := T _ _ g1 (by decide) (Or.inr rfl)
      replace g2 := T _ _ g2 (by decide) (Or.inr rfl)
      replace g4 := T _ _ g4 (by decide) (Or.inr rfl)
      have g3 := g
      clear g T
      obtain ⟨lv, h, g, T⟩ := qa_iinc (n := 4) (z := (1 : Int32)) (q := 89) (qa_e rfl h) rfl (by decide) g4
      replace g0 := T _ _ g0 (by decide) (Or.inr rfl)
      replace g1 := T _ _ g1 (by decide) (Or.inr rfl)
      replace g2 := T _ _ g2 (by decide) (Or.inr rfl)
      replace g3 := T _ _ g3 (by decide) (Or.inr rfl)
      replace g4 := g
      clear g T
      replace h := qa_goto (q := 35) (qa_e rfl h) rfl
      have e0 : mc_242_99_p35 N l1 l2 σ s = .inl ((s.1 + (1 : Int32)), (s.2 + (if (ma_216_99 l2 σ) < (ma_216_99 s.1 σ) then (1 : Int32) else (if (ma_216_99 s.1 σ) = (ma_216_99 l2 σ) then (if s.1 < l2 then (1 : Int32) else (0 : Int32)) else (0 : Int32))))) := by exact Eq.trans (if_pos c1) (rfl)
      rw [qa_whl e0]
      exact ih n hn (Nat.le_of_succ_le hF) ((s.1 + (1 : Int32)), (s.2 + (if (ma_216_99 l2 σ) < (ma_216_99 s.1 σ) then (1 : Int32) else (if (ma_216_99 s.1 σ) = (ma_216_99 l2 σ) then (if s.1 < l2 then (1 : Int32) else (0 : Int32)) else (0 : Int32))))) _ _ hM es g0 g1 g2 g3 g4 h
    · replace h := qa_ift (q := 92) (qa_e rfl h) rfl (qa_T_ge c1)
      have e0 : mc_242_99_p35 N l1 l2 σ s = .inr (s.1, s.2) := by exact Eq.trans (if_neg c1) (rfl)
      rw [qa_whr e0]
      exact ⟨_, _, q61_mono f F _ _ _ _ _ _ _ _ (Nat.le_of_succ_le hF) h, hM, es, g0, g1, g2, g3⟩
noncomputable def mc_242_99_p22 (N : Nat) (l1 : Int32) (σ : qa_S) (s : Int32) : (Int32) ⊕ ((Int32) ⊕ (Int32)) :=
  if s < (σ 99 0) then
    qa_in ((qa_wh (fun s => s) (mc_242_99_p35 N l1 s σ) N ((0 : Int32), (0 : Int32)))) fun r2 =>
    if r2.2 = l1 then
      .inr (.inl s)
    else
      .inl (s + (1 : Int32))
  else
    .inr (.inr s)
theorem md_242_99_p22 {N F : Nat} {r : Option Value × q4_M} {l1 : Int32} {σ : qa_S} (hN : F ≤ N) : ∀ f n, f ≤ n → f ≤ F → ∀ (s : Int32) (lv : List (Nat × Value)) (M : q4_M), qa_O M → qa_s M = σ → q4_get lv 0 = some (.ref 99) → q4_get lv 1 = some (.int (l1)) → q4_get lv 2 = some (.int (s)) → q4_run f 242 22 lv [] M 0 0 = some r → (∀ b, (qa_wh (fun s => .inr s) (mc_242_99_p22 N l1 σ) n s) = .inl b → r.1 = some (.int (b)) ∧ qa_O r.2 ∧ qa_s r.2 = σ) ∧ (∀ b, (qa_wh (fun s => .inr s) (mc_242_99_p22 N l1 σ) n s) = .inr b → ∃ lv M, q4_run F 242 105 lv [] M 0 0 = some r ∧ qa_O M ∧ qa_s M = σ) := by
  intro f
  induction f with
  | zero => intro n _ _ s lv M hM es _ _ _ h; cases h
  | succ f ih =>
    intro n hn hF s lv M hM es g0 g1 g2 h
    obtain ⟨n, rfl⟩ : ∃ n1, n = n1 + 1 := ⟨n - 1, by omega⟩
    replace hn : f ≤ n := Nat.le_of_succ_le_succ hn
    have hN := Nat.le_trans (Nat.le_of_succ_le hF) hN
    replace h := qa_iload (n := 2) (q := 23) (qa_d rfl h) rfl g2
    replace h := qa_aload (n := 0) (q := 24) (qa_e rfl h) rfl g0
    replace h := qa_gi (j := 0) (q := 27) (qa_e rfl h) rfl hM es rfl (by decide)
    by_cases c1 : s < (σ 99 0)
    · replace h := qa_iff (q := 30) (qa_e rfl h) rfl (qa_F_ge c1)
      replace h := qa_push (z := (0 : Int32)) (q := 31) (qa_e rfl h) rfl (by decide)
      obtain ⟨lv, h, g, T⟩ := qa_istore (n := 3) (q := 32) (qa_e rfl h) rfl
      replace g0 := T _ _ g0 (by decide) (Or.inr rfl)
      replace g1 := T _ _ g1 (by decide) (Or.inr rfl)
      replace g2 := T _ _ g2 (by decide) (Or.inr rfl)
      have g3 := g
      clear g T
      replace h := qa_push (z := (0 : Int32)) (q := 33) (qa_e rfl h) rfl (by decide)
      obtain ⟨lv, h, g, T⟩ := qa_istore (n := 4) (q := 35) (qa_e rfl h) rfl
      replace g0 := T _ _ g0 (by decide) (Or.inr rfl)
      replace g1 := T _ _ g1 (by decide) (Or.inr rfl)
      replace g2 := T _ _ g2 (by decide) (Or.inr rfl)
      replace g3 := T _ _ g3 (by decide) (Or.inr rfl)
      have g4 := g
      clear g T
      obtain ⟨r2, er2⟩ : ∃ x, x = (qa_wh (fun s => s) (mc_242_99_p35 N l1 s σ) N ((0 : Int32), (0 : Int32))) := ⟨_, rfl⟩
      have L := md_242_99_p35 (l1 := l1) (l2 := s) (σ := σ) (F := f) (N := N) (r := r) hN f N hN (Nat.le_refl f) ((0 : Int32), (0 : Int32)) _ _ hM es g0 g1 g2 g3 g4 h
      rw [← er2] at L
      obtain ⟨lv, M, h, hM, es, g0, g1, g2, g3⟩ := L
      replace h := qa_iload (n := 3) (q := 93) (qa_e rfl h) rfl g3
      replace h := qa_iload (n := 1) (q := 94) (qa_e rfl h) rfl g1
      by_cases c3 : r2.2 = l1
      · replace h := qa_iff (q := 97) (qa_e rfl h) rfl (qa_F_ne c3)
        replace h := qa_iload (n := 2) (q := 98) (qa_e rfl h) rfl g2
        have er := qa_ri (qa_e rfl h)
        subst er
        have e0 : mc_242_99_p22 N l1 σ s = .inr (.inl s) := by exact Eq.trans (if_pos c1) (Eq.trans (qa_ie er2) (Eq.trans (if_pos c3) (rfl)))
        rw [qa_whr e0]
        exact ⟨fun b hb => (by have e := Sum.inl.inj hb; subst e; exact ⟨rfl, hM, es⟩), fun b hb => nomatch hb⟩
      · replace h := qa_ift (q := 99) (qa_e rfl h) rfl (qa_T_ne c3)
        obtain ⟨lv, h, g, T⟩ := qa_iinc (n := 2) (z := (1 : Int32)) (q := 102) (qa_e rfl h) rfl (by decide) g2
        replace g0 := T _ _ g0 (by decide) (Or.inr rfl)
        replace g1 := T _ _ g1 (by decide) (Or.inr rfl)
        replace g2 := g
        clear g T
        replace h := qa_goto (q := 22) (qa_e rfl h) rfl
        have e0 : mc_242_99_p22 N l1 σ s = .inl (s + (1 : Int32)) := by exact Eq.trans (if_pos c1) (Eq.trans (qa_ie er2) (Eq.trans (if_neg c3) (rfl)))
        rw [qa_whl e0]
        exact ih n hn (Nat.le_of_succ_le hF) (s + (1 : Int32)) _ _ hM es g0 g1 g2 h
    · replace h := qa_ift (q := 105) (qa_e rfl h) rfl (qa_T_ge c1)
      have e0 : mc_242_99_p22 N l1 σ s = .inr (.inr s) := by exact Eq.trans (if_neg c1) (rfl)
      rw [qa_whr e0]
      exact ⟨fun b hb => (nomatch hb), fun b hb => (by have e := Sum.inr.inj hb; subst e; exact ⟨_, _, q61_mono f F _ _ _ _ _ _ _ _ (Nat.le_of_succ_le hF) h, hM, es⟩)⟩
/-- BuriedBySevensModel, rank, (I)I -/
noncomputable def ma_242_99 (N : Nat) (a1 : Int32) (σ : qa_S) : Int32 × qa_S :=
  qa_in (qa_u σ 99 9 (0 : Int32)) fun m1 =>
  if a1 < (0 : Int32) then
    qa_in ((ma_152_99 (-4 : Int32) m1)) fun r3 =>
    (r3.1, r3.2)
  else
    qa_in ((ma_181_99 N m1)) fun m4 =>
    qa_in ((qa_wh (fun s => .inr s) (mc_242_99_p22 N a1 m4) N (0 : Int32))) fun r5 =>
    qa_cs r5
      (fun b6 =>
        (b6, m4))
      (fun b6 =>
        ((-9 : Int32), m4))
theorem mb_242_99 {f N : Nat} (hN : f ≤ N) {M : q4_M} {r : Option Value × q4_M} {σ : qa_S} {a1 : Int32} (hM : qa_O M) (es : qa_s M = σ) (h : q4_run f 242 0 (lv_args 0 [.ref 99, .int (a1)]) [] M 0 0 = some r) : r.1 = some (.int ((ma_242_99 N a1 σ).1)) ∧ qa_O r.2 ∧ qa_s r.2 = (ma_242_99 N a1 σ).2 := by
  obtain ⟨lv, el⟩ : ∃ l, l = lv_args 0 [.ref 99, .int (a1)] := ⟨_, rfl⟩
  have g0 : q4_get lv 0 = some (.ref 99) := by rw [el]; rfl
  have g1 : q4_get lv 1 = some (.int (a1)) := by rw [el]; rfl
  rw [← el] at h
  clear el
  replace h := qa_aload (n := 0) (q := 1) (qa_e rfl h) rfl g0
  replace h := qa_push (z := (0 : Int32)) (q := 2) (qa_e rfl h) rfl (by decide)
  obtain ⟨m1, em1⟩ : ∃ x, x = qa_u σ 99 9 (0 : Int32) := ⟨_, rfl⟩
  obtain ⟨M, h, hM, es⟩ := qa_pf (j := 9) (q := 5) (qa_e rfl h) rfl hM es rfl (by decide)
  rw [← em1] at es
  replace h := qa_iload (n := 1) (q := 6) (qa_e rfl h) rfl g1
  by_cases c2 : a1 < (0 : Int32)
  · replace h := qa_icf (q := 9) (qa_e rfl h) rfl (qa_F_ge c2)
    replace h := qa_aload (n := 0) (q := 10) (qa_e rfl h) rfl g0
    replace h := qa_push (z := (-4 : Int32)) (q := 12) (qa_e rfl h) rfl (by decide)
    obtain ⟨r3, er3⟩ : ∃ x, x = (ma_152_99 (-4 : Int32) m1) := ⟨_, rfl⟩
    obtain ⟨M, h, hM, es⟩ := qa_c1 (y := 152) (as := [.ref 99, .int ((-4 : Int32))]) (rest := []) (i := .invokevirtual 152) (q := 15) (qa_e rfl h) (Or.inl rfl) rfl rfl (by decide) rfl (fun r hc => mb_152_99 hM es hc)
    rw [← er3] at h es
    have er := qa_ri (qa_e rfl h)
    subst er
    have e0 : ma_242_99 N a1 σ = (r3.1, r3.2) := by exact Eq.trans (qa_ie em1) (Eq.trans (if_pos c2) (Eq.trans (qa_ie er3) (rfl)))
    rw [e0]
    exact ⟨rfl, hM, es⟩
  · replace h := qa_ict (q := 16) (qa_e rfl h) rfl (qa_T_ge c2)
    replace h := qa_aload (n := 0) (q := 17) (qa_e rfl h) rfl g0
    obtain ⟨m4, em4⟩ : ∃ x, x = (ma_181_99 N m1) := ⟨_, rfl⟩
    obtain ⟨M, h, hM, es⟩ := qa_c0 (y := 181) (as := [.ref 99]) (rest := []) (i := .invokevirtual 181) (q := 20) (qa_e rfl h) (Or.inl rfl) rfl rfl (by decide) rfl (fun r hc => mb_181_99 hN hM es hc)
    rw [← em4] at es
    replace h := qa_push (z := (0 : Int32)) (q := 21) (qa_e rfl h) rfl (by decide)
    obtain ⟨lv, h, g, T⟩ := qa_istore (n := 2) (q := 22) (qa_e rfl h) rfl
    replace g0 := T _ _ g0 (by decide) (Or.inr rfl)
    replace g1 := T _ _ g1 (by decide) (Or.inr rfl)
    have g2 := g
    clear g T
    obtain ⟨r5, er5⟩ : ∃ x, x = (qa_wh (fun s => .inr s) (mc_242_99_p22 N a1 m4) N (0 : Int32)) := ⟨_, rfl⟩
    have L := md_242_99_p22 (l1 := a1) (σ := m4) (F := f) (N := N) (r := r) hN f N hN (Nat.le_refl f) (0 : Int32) _ _ hM es g0 g1 g2 h
    rw [← er5] at L
    rcases qr5 : r5 with b6 | b6
    · obtain ⟨h, hM, es⟩ := L.1 b6 qr5
      have e0 : ma_242_99 N a1 σ = (b6, m4) := by exact Eq.trans (qa_ie em1) (Eq.trans (if_neg c2) (Eq.trans (qa_ie em4) (Eq.trans (qa_ie er5) (Eq.trans (qa_csl qr5 _ _) (rfl)))))
      rw [e0]
      exact ⟨h, hM, es⟩
    · obtain ⟨lv, M, h, hM, es⟩ := L.2 b6 qr5
      replace h := qa_push (z := (-9 : Int32)) (q := 107) (qa_e rfl h) rfl (by decide)
      have er := qa_ri (qa_e rfl h)
      subst er
      have e0 : ma_242_99 N a1 σ = ((-9 : Int32), m4) := by exact Eq.trans (qa_ie em1) (Eq.trans (if_neg c2) (Eq.trans (qa_ie em4) (Eq.trans (qa_ie er5) (Eq.trans (qa_csr qr5 _ _) (rfl)))))
      rw [e0]
      exact ⟨rfl, hM, es⟩
noncomputable def mc_243_99_p38 (N : Nat) (l1 : Int32) (l2 : Int32) (l3 : Int32) (σ : qa_S) (s : Int32 × Int32) : (Int32 × Int32) ⊕ (Int32 × Int32) :=
  if s.1 < (4 : Int32) then
    .inl ((s.1 + (1 : Int32)), (if s.2 = (0 : Int32) then (0 : Int32) else (if (σ 111 s.1.toNatClampNeg) = (σ 109 s.1.toNatClampNeg) then (1 : Int32) else (0 : Int32))))
  else
    .inr (s.1, s.2)
theorem md_243_99_p38 {N F : Nat} {r : Option Value × q4_M} {l1 : Int32} {l2 : Int32} {l3 : Int32} {σ : qa_S} (hN : F ≤ N) : ∀ f n, f ≤ n → f ≤ F → ∀ (s : Int32 × Int32) (lv : List (Nat × Value)) (M : q4_M), qa_O M → qa_s M = σ → q4_get lv 0 = some (.ref 99) → q4_get lv 1 = some (.int (l1)) → q4_get lv 2 = some (.int (l2)) → q4_get lv 3 = some (.int (l3)) → q4_get lv 4 = some (.int (s.2)) → q4_get lv 5 = some (.int (s.1)) → q4_run f 243 38 lv [] M 0 0 = some r → ∃ lv M, q4_run F 243 79 lv [] M 0 0 = some r ∧ qa_O M ∧ qa_s M = σ ∧ q4_get lv 0 = some (.ref 99) ∧ q4_get lv 1 = some (.int (l1)) ∧ q4_get lv 2 = some (.int (l2)) ∧ q4_get lv 3 = some (.int (l3)) ∧ q4_get lv 4 = some (.int ((qa_wh (fun s => s) (mc_243_99_p38 N l1 l2 l3 σ) n s).2)) := by
  intro f
  induction f with
  | zero => intro n _ _ s lv M hM es _ _ _ _ _ _ h; cases h
  | succ f ih =>
    intro n hn hF s lv M hM es g0 g1 g2 g3 g4 g5 h
    obtain ⟨n, rfl⟩ : ∃ n1, n = n1 + 1 := ⟨n - 1, by omega⟩
    replace hn : f ≤ n := Nat.le_of_succ_le_succ hn
    have hN := Nat.le_trans (Nat.le_of_succ_le hF) hN
    replace h := qa_iload (n := 5) (q := 40) (qa_d rfl h) rfl g5
    replace h := qa_push (z := (4 : Int32)) (q := 41) (qa_e rfl h) rfl (by decide)
    by_cases c1 : s.1 < (4 : Int32)
    · replace h := qa_iff (q := 44) (qa_e rfl h) rfl (qa_F_ge c1)
      replace h := qa_iload (n := 4) (q := 46) (qa_e rfl h) rfl g4
      obtain ⟨lv, M, h, hM, es, g0, g1, g2, g3, g5⟩ : ∃ lv M, q4_run f 243 71 lv [.int ((if s.2 = (0 : Int32) then (0 : Int32) else (if (σ 111 s.1.toNatClampNeg) = (σ 109 s.1.toNatClampNeg) then (1 : Int32) else (0 : Int32))))] M 0 0 = some r ∧ qa_O M ∧ qa_s M = σ ∧ q4_get lv 0 = some (.ref 99) ∧ q4_get lv 1 = some (.int (l1)) ∧ q4_get lv 2 = some (.int (l2)) ∧ q4_get lv 3 = some (.int (l3)) ∧ q4_get lv 5 = some (.int (s.1)) := by
        by_cases c2 : s.2 = (0 : Int32)
        · replace h := qa_ict (q := 70) (qa_e rfl h) rfl (qa_T_eq c2)
          replace h := qa_push (z := (0 : Int32)) (q := 71) (qa_e rfl h) rfl (by decide)
          exact ⟨lv, M, (qa_hi1 c2 h), hM, es, g0, g1, g2, g3, g5⟩
        · replace h := qa_icf (q := 49) (qa_e rfl h) rfl (qa_F_eq c2)
          replace h := qa_aload (n := 0) (q := 50) (qa_e rfl h) rfl g0
          replace h := qa_gr (b := 111) (j := 14) (q := 53) (qa_e rfl h) rfl hM rfl (by decide)
          replace h := qa_iload (n := 5) (q := 55) (qa_e rfl h) rfl g5
          replace h := qa_iaload (jn := s.1.toNatClampNeg) (q := 56) (qa_e rfl h) rfl hM es rfl
          replace h := qa_aload (n := 0) (q := 57) (qa_e rfl h) rfl g0
          replace h := qa_gr (b := 109) (j := 12) (q := 60) (qa_e rfl h) rfl hM rfl (by decide)
          replace h := qa_iload (n := 5) (q := 62) (qa_e rfl h) rfl g5
          replace h := qa_iaload (jn := s.1.toNatClampNeg) (q := 63) (qa_e rfl h) rfl hM es rfl
          obtain ⟨lv, M, h, hM, es, g0, g1, g2, g3, g5⟩ : ∃ lv M, q4_run f 243 71 lv [.int ((if (σ 111 s.1.toNatClampNeg) = (σ 109 s.1.toNatClampNeg) then (1 : Int32) else (0 : Int32)))] M 0 0 = some r ∧ qa_O M ∧ qa_s M = σ ∧ q4_get lv 0 = some (.ref 99) ∧ q4_get lv 1 = some (.int (l1)) ∧ q4_get lv 2 = some (.int (l2)) ∧ q4_get lv 3 = some (.int (l3)) ∧ q4_get lv 5 = some (.int (s.1)) := by
            by_cases c3 : (σ 111 s.1.toNatClampNeg) = (σ 109 s.1.toNatClampNeg)
            · replace h := qa_iff (q := 66) (qa_e rfl h) rfl (qa_F_ne c3)
              replace h := qa_push (z := (1 : Int32)) (q := 67) (qa_e rfl h) rfl (by decide)
              replace h := qa_goto (q := 71) (qa_e rfl h) rfl
              exact ⟨lv, M, (qa_hi1 c3 h), hM, es, g0, g1, g2, g3, g5⟩
            · replace h := qa_ift (q := 70) (qa_e rfl h) rfl (qa_T_ne c3)
              replace h := qa_push (z := (0 : Int32)) (q := 71) (qa_e rfl h) rfl (by decide)
              exact ⟨lv, M, (qa_hi0 c3 h), hM, es, g0, g1, g2, g3, g5⟩
          exact ⟨lv, M, (qa_hi0 c2 h), hM, es, g0, g1, g2, g3, g5⟩
      obtain ⟨lv, h, g, T⟩ := qa_istore (n := 4) (q := 73) (qa_e rfl h) rfl
      replace g0 := T _ _ g0 (by decide) (Or.inr rfl)
      replace g1 := T _ _ g1 (by decide) (Or.inr rfl)
      replace g2 := T _ _ g2 (by decide) (Or.inr rfl)
      replace g3 := T _ _ g3 (by decide) (Or.inr rfl)
      replace g5 := T _ _ g5 (by decide) (Or.inr rfl)
      have g4 := g
      clear g T
      obtain ⟨lv, h, g, T⟩ := qa_iinc (n := 5) (z := (1 : Int32)) (q := 76) (qa_e rfl h) rfl (by decide) g5
      replace g0 := T _ _ g0 (by decide) (Or.inr rfl)
      replace g1 := T _ _ g1 (by decide) (Or.inr rfl)
      replace g2 := T _ _ g2 (by decide) (Or.inr rfl)
      replace g3 := T _ _ g3 (by decide) (Or.inr rfl)
      replace g4 := T _ _ g4 (by decide) (Or.inr rfl)
      replace g5 := g
      clear g T
      replace h := qa_goto (q := 38) (qa_e rfl h) rfl
      have e0 : mc_243_99_p38 N l1 l2 l3 σ s = .inl ((s.1 + (1 : Int32)), (if s.2 = (0 : Int32) then (0 : Int32) else (if (σ 111 s.1.toNatClampNeg) = (σ 109 s.1.toNatClampNeg) then (1 : Int32) else (0 : Int32)))) := by exact Eq.trans (if_pos c1) (rfl)
      rw [qa_whl e0]
      exact ih n hn (Nat.le_of_succ_le hF) ((s.1 + (1 : Int32)), (if s.2 = (0 : Int32) then (0 : Int32) else (if (σ 111 s.1.toNatClampNeg) = (σ 109 s.1.toNatClampNeg) then (1 : Int32) else (0 : Int32)))) _ _ hM es g0 g1 g2 g3 g4 g5 h
    · replace h := qa_ift (q := 79) (qa_e rfl h) rfl (qa_T_ge c1)
      have e0 : mc_243_99_p38 N l1 l2 l3 σ s = .inr (s.1, s.2) := by exact Eq.trans (if_neg c1) (rfl)
      rw [qa_whr e0]
      exact ⟨_, _, q61_mono f F _ _ _ _ _ _ _ _ (Nat.le_of_succ_le hF) h, hM, es, g0, g1, g2, g3, g4⟩
noncomputable def mc_243_99_p18 (N : Nat) (l1 : Int32) (s : Int32 × Int32 × qa_S) : (Int32 × Int32 × qa_S) ⊕ (Int32 × Int32 × qa_S) :=
  if s.1 < l1 then
    qa_in ((ma_196_99 N s.1 s.2.2)) fun m2 =>
    qa_in ((ma_183_99 N m2)) fun m3 =>
    qa_in ((qa_wh (fun s => s) (mc_243_99_p38 N l1 s.2.1 s.1 m3) N ((0 : Int32), (1 : Int32)))) fun r4 =>
    .inl ((s.1 + (1 : Int32)), (s.2.1 + (if r4.2 = (0 : Int32) then (0 : Int32) else (1 : Int32))), m3)
  else
    .inr (s.1, s.2.1, s.2.2)
theorem md_243_99_p18 {N F : Nat} {r : Option Value × q4_M} {l1 : Int32} (hN : F ≤ N) : ∀ f n, f ≤ n → f ≤ F → ∀ (s : Int32 × Int32 × qa_S) (lv : List (Nat × Value)) (M : q4_M), qa_O M → qa_s M = s.2.2 → q4_get lv 0 = some (.ref 99) → q4_get lv 1 = some (.int (l1)) → q4_get lv 2 = some (.int (s.2.1)) → q4_get lv 3 = some (.int (s.1)) → q4_run f 243 18 lv [] M 0 0 = some r → ∃ lv M, q4_run F 243 98 lv [] M 0 0 = some r ∧ qa_O M ∧ qa_s M = (qa_wh (fun s => s) (mc_243_99_p18 N l1) n s).2.2 ∧ q4_get lv 2 = some (.int ((qa_wh (fun s => s) (mc_243_99_p18 N l1) n s).2.1)) := by
  intro f
  induction f with
  | zero => intro n _ _ s lv M hM es _ _ _ _ h; cases h
  | succ f ih =>
    intro n hn hF s lv M hM es g0 g1 g2 g3 h
    obtain ⟨n, rfl⟩ : ∃ n1, n = n1 + 1 := ⟨n - 1, by omega⟩
    replace hn : f ≤ n := Nat.le_of_succ_le_succ hn
    have hN := Nat.le_trans (Nat.le_of_succ_le hF) hN
    replace h := qa_iload (n := 3) (q := 19) (qa_d rfl h) rfl g3
    replace h := qa_iload (n := 1) (q := 20) (qa_e rfl h) rfl g1
    by_cases c1 : s.1 < l1
    · replace h := qa_iff (q := 23) (qa_e rfl h) rfl (qa_F_ge c1)
      replace h := qa_aload (n := 0) (q := 24) (qa_e rfl h) rfl g0
      replace h := qa_iload (n := 3) (q := 25) (qa_e rfl h) rfl g3
      obtain ⟨m2, em2⟩ : ∃ x, x = (ma_196_99 N s.1 s.2.2) := ⟨_, rfl⟩
      obtain ⟨M, h, hM, es⟩ := qa_c0 (y := 196) (as := [.ref 99, .int (s.1)]) (rest := []) (i := .invokevirtual 196) (q := 28) (qa_e rfl h) (Or.inl rfl) rfl rfl (by decide) rfl (fun r hc => mb_196_99 hN hM es hc)
      rw [← em2] at es
      replace h := qa_aload (n := 0) (q := 29) (qa_e rfl h) rfl g0
      obtain ⟨m3, em3⟩ : ∃ x, x = (ma_183_99 N m2) := ⟨_, rfl⟩
      obtain ⟨M, h, hM, es⟩ := qa_c0 (y := 183) (as := [.ref 99]) (rest := []) (i := .invokevirtual 183) (q := 32) (qa_e rfl h) (Or.inl rfl) rfl rfl (by decide) rfl (fun r hc => mb_183_99 hN hM es hc)
      rw [← em3] at es
      replace h := qa_push (z := (1 : Int32)) (q := 33) (qa_e rfl h) rfl (by decide)
      obtain ⟨lv, h, g, T⟩ := qa_istore (n := 4) (q := 35) (qa_e rfl h) rfl
      replace g0 := T _ _ g0 (by decide) (Or.inr rfl)
      replace g1 := T _ _ g1 (by decide) (Or.inr rfl)
      replace g2 := T _ _ g2 (by decide) (Or.inr rfl)
      replace g3 := T _ _ g3 (by decide) (Or.inr rfl)
      have g4 := g
      clear g T
      replace h := qa_push (z := (0 : Int32)) (q := 36) (qa_e rfl h) rfl (by decide)
      obtain ⟨lv, h, g, T⟩ := qa_istore (n := 5) (q := 38) (qa_e rfl h) rfl
      replace g0 := T _ _ g0 (by decide) (Or.inr rfl)
      replace g1 := T _ _ g1 (by decide) (Or.inr rfl)
      replace g2 := T _ _ g2 (by decide) (Or.inr rfl)
      replace g3 := T _ _ g3 (by decide) (Or.inr rfl)
      replace g4 := T _ _ g4 (by decide) (Or.inr rfl)
      have g5 := g
      clear g T
      obtain ⟨r4, er4⟩ : ∃ x, x = (qa_wh (fun s => s) (mc_243_99_p38 N l1 s.2.1 s.1 m3) N ((0 : Int32), (1 : Int32))) := ⟨_, rfl⟩
      have L := md_243_99_p38 (l1 := l1) (l2 := s.2.1) (l3 := s.1) (σ := m3) (F := f) (N := N) (r := r) hN f N hN (Nat.le_refl f) ((0 : Int32), (1 : Int32)) _ _ hM es g0 g1 g2 g3 g4 g5 h
      rw [← er4] at L
      obtain ⟨lv, M, h, hM, es, g0, g1, g2, g3, g4⟩ := L
      replace h := qa_iload (n := 2) (q := 80) (qa_e rfl h) rfl g2
      replace h := qa_iload (n := 4) (q := 82) (qa_e rfl h) rfl g4
      obtain ⟨lv, M, h, hM, es, g0, g1, g3⟩ : ∃ lv M, q4_run f 243 90 lv [.int ((if r4.2 = (0 : Int32) then (0 : Int32) else (1 : Int32))), .int (s.2.1)] M 0 0 = some r ∧ qa_O M ∧ qa_s M = m3 ∧ q4_get lv 0 = some (.ref 99) ∧ q4_get lv 1 = some (.int (l1)) ∧ q4_get lv 3 = some (.int (s.1)) := by
        by_cases c5 : r4.2 = (0 : Int32)
        · replace h := qa_ict (q := 89) (qa_e rfl h) rfl (qa_T_eq c5)
          replace h := qa_push (z := (0 : Int32)) (q := 90) (qa_e rfl h) rfl (by decide)
          exact ⟨lv, M, (qa_hi1 c5 h), hM, es, g0, g1, g3⟩
        · replace h := qa_icf (q := 85) (qa_e rfl h) rfl (qa_F_eq c5)
          replace h := qa_push (z := (1 : Int32)) (q := 86) (qa_e rfl h) rfl (by decide)
          replace h := qa_goto (q := 90) (qa_e rfl h) rfl
          exact ⟨lv, M, (qa_hi0 c5 h), hM, es, g0, g1, g3⟩
      replace h := qa_iadd (q := 91) (qa_e rfl h) rfl
      obtain ⟨lv, h, g, T⟩ := qa_istore (n := 2) (q := 92) (qa_e rfl h) rfl
      replace g0 := T _ _ g0 (by decide) (Or.inr rfl)
      replace g1 := T _ _ g1 (by decide) (Or.inr rfl)
      replace g3 := T _ _ g3 (by decide) (Or.inr rfl)
      have g2 := g
      clear g T
      obtain ⟨lv, h, g, T⟩ := qa_iinc (n := 3) (z := (1 : Int32)) (q := 95) (qa_e rfl h) rfl (by decide) g3
      replace g0 := T _ _ g0 (by decide) (Or.inr rfl)
      replace g1 := T _ _ g1 (by decide) (Or.inr rfl)
      replace g2 := T _ _ g2 (by decide) (Or.inr rfl)
      replace g3 := g
      clear g T
      replace h := qa_goto (q := 18) (qa_e rfl h) rfl
      have e0 : mc_243_99_p18 N l1 s = .inl ((s.1 + (1 : Int32)), (s.2.1 + (if r4.2 = (0 : Int32) then (0 : Int32) else (1 : Int32))), m3) := by exact Eq.trans (if_pos c1) (Eq.trans (qa_ie em2) (Eq.trans (qa_ie em3) (Eq.trans (qa_ie er4) (rfl))))
      rw [qa_whl e0]
      exact ih n hn (Nat.le_of_succ_le hF) ((s.1 + (1 : Int32)), (s.2.1 + (if r4.2 = (0 : Int32) then (0 : Int32) else (1 : Int32))), m3) _ _ hM es g0 g1 g2 g3 h
    · replace h := qa_ift (q := 98) (qa_e rfl h) rfl (qa_T_ge c1)
      have e0 : mc_243_99_p18 N l1 s = .inr (s.1, s.2.1, s.2.2) := by exact Eq.trans (if_neg c1) (rfl)
      rw [qa_whr e0]
      exact ⟨_, _, q61_mono f F _ _ _ _ _ _ _ _ (Nat.le_of_succ_le hF) h, hM, es, g2⟩
/-- BuriedBySevensModel, alikeGlasses, ()I -/
noncomputable def ma_243_99 (N : Nat) (σ : qa_S) : Int32 × qa_S :=
  qa_in (qa_u σ 99 9 (0 : Int32)) fun m1 =>
  qa_in ((ma_180_99 N m1)) fun m2 =>
  qa_in ((ma_195_99 N m2)) fun r3 =>
  qa_in ((qa_wh (fun s => s) (mc_243_99_p18 N r3) N ((1 : Int32), (0 : Int32), m2))) fun r4 =>
  (r4.2.1, r4.2.2)
theorem mb_243_99 {f N : Nat} (hN : f ≤ N) {M : q4_M} {r : Option Value × q4_M} {σ : qa_S} (hM : qa_O M) (es : qa_s M = σ) (h : q4_run f 243 0 (lv_args 0 [.ref 99]) [] M 0 0 = some r) : r.1 = some (.int ((ma_243_99 N σ).1)) ∧ qa_O r.2 ∧ qa_s r.2 = (ma_243_99 N σ).2 := by
  obtain ⟨lv, el⟩ : ∃ l, l = lv_args 0 [.ref 99] := ⟨_, rfl⟩
  have g0 : q4_get lv 0 = some (.ref 99) := by rw [el]; rfl
  rw [← el] at h
  clear el
  replace h := qa_aload (n := 0) (q := 1) (qa_e rfl h) rfl g0
  replace h := qa_push (z := (0 : Int32)) (q := 2) (qa_e rfl h) rfl (by decide)
  obtain ⟨m1, em1⟩ : ∃ x, x = qa_u σ 99 9 (0 : Int32) := ⟨_, rfl⟩
  obtain ⟨M, h, hM, es⟩ := qa_pf (j := 9) (q := 5) (qa_e rfl h) rfl hM es rfl (by decide)
  rw [← em1] at es
  replace h := qa_aload (n := 0) (q := 6) (qa_e rfl h) rfl g0
  obtain ⟨m2, em2⟩ : ∃ x, x = (ma_180_99 N m1) := ⟨_, rfl⟩
  obtain ⟨M, h, hM, es⟩ := qa_c0 (y := 180) (as := [.ref 99]) (rest := []) (i := .invokevirtual 180) (q := 9) (qa_e rfl h) (Or.inl rfl) rfl rfl (by decide) rfl (fun r hc => mb_180_99 hN hM es hc)
  rw [← em2] at es
  replace h := qa_aload (n := 0) (q := 10) (qa_e rfl h) rfl g0
  obtain ⟨r3, er3⟩ : ∃ x, x = (ma_195_99 N m2) := ⟨_, rfl⟩
  obtain ⟨M, h, hM, es⟩ := qa_c1 (y := 195) (as := [.ref 99]) (rest := []) (i := .invokevirtual 195) (q := 13) (qa_e rfl h) (Or.inl rfl) rfl rfl (by decide) rfl (fun r hc => mb_195_99 hN hM es hc)
  rw [← er3] at h
  obtain ⟨lv, h, g, T⟩ := qa_istore (n := 1) (q := 14) (qa_e rfl h) rfl
  replace g0 := T _ _ g0 (by decide) (Or.inr rfl)
  have g1 := g
  clear g T
  replace h := qa_push (z := (0 : Int32)) (q := 15) (qa_e rfl h) rfl (by decide)
  obtain ⟨lv, h, g, T⟩ := qa_istore (n := 2) (q := 16) (qa_e rfl h) rfl
  replace g0 := T _ _ g0 (by decide) (Or.inr rfl)
  replace g1 := T _ _ g1 (by decide) (Or.inr rfl)
  have g2 := g
  clear g T
  replace h := qa_push (z := (1 : Int32)) (q := 17) (qa_e rfl h) rfl (by decide)
  obtain ⟨lv, h, g, T⟩ := qa_istore (n := 3) (q := 18) (qa_e rfl h) rfl
  replace g0 := T _ _ g0 (by decide) (Or.inr rfl)
  replace g1 := T _ _ g1 (by decide) (Or.inr rfl)
  replace g2 := T _ _ g2 (by decide) (Or.inr rfl)
  have g3 := g
  clear g T
  obtain ⟨r4, er4⟩ : ∃ x, x = (qa_wh (fun s => s) (mc_243_99_p18 N r3) N ((1 : Int32), (0 : Int32), m2)) := ⟨_, rfl⟩
  have L := md_243_99_p18 (l1 := r3) (F := f) (N := N) (r := r) hN f N hN (Nat.le_refl f) ((1 : Int32), (0 : Int32), m2) _ _ hM es g0 g1 g2 g3 h
  rw [← er4] at L
  obtain ⟨lv, M, h, hM, es, g2⟩ := L
  replace h := qa_iload (n := 2) (q := 99) (qa_e rfl h) rfl g2
  have er := qa_ri (qa_e rfl h)
  subst er
  have e0 : ma_243_99 N σ = (r4.2.1, r4.2.2) := by exact Eq.trans (qa_ie em1) (Eq.trans (qa_ie em2) (Eq.trans (qa_ie er3) (Eq.trans (qa_ie er4) (rfl))))
  rw [e0]
  exact ⟨rfl, hM, es⟩
noncomputable def mc_244_99_p63 (N : Nat) (l1 : Int32) (l2 : Int32) (l6 : Int32) (σ : qa_S) (s : Int32 × Int32 × Int32) : (Int32 × Int32 × Int32) ⊕ (Int32 × Int32 × Int32) :=
  if s.1 < (σ 99 0) then
    qa_in ((ma_188_99 N l1 l6 s.1 σ)) fun r2 =>
    .inl ((s.1 + (1 : Int32)), (s.2.1 + (if (if r2 = (0 : Int32) then (1 : Int32) else (0 : Int32)) = (0 : Int32) then (0 : Int32) else (1 : Int32))), (if (if r2 = (0 : Int32) then (1 : Int32) else (0 : Int32)) = (0 : Int32) then s.2.2 else (if s.2.2 < (0 : Int32) then (((10 : Int32) * l6) + s.1) else s.2.2)))
  else
    .inr (s.1, s.2.1, s.2.2)
theorem md_244_99_p63 {N F : Nat} {r : Option Value × q4_M} {l1 : Int32} {l2 : Int32} {l6 : Int32} {σ : qa_S} (hN : F ≤ N) : ∀ f n, f ≤ n → f ≤ F → ∀ (s : Int32 × Int32 × Int32) (lv : List (Nat × Value)) (M : q4_M), qa_O M → qa_s M = σ → q4_get lv 0 = some (.ref 99) → q4_get lv 1 = some (.int (l1)) → q4_get lv 2 = some (.int (l2)) → q4_get lv 4 = some (.int (s.2.1)) → q4_get lv 5 = some (.int (s.2.2)) → q4_get lv 6 = some (.int (l6)) → q4_get lv 7 = some (.int (s.1)) → q4_run f 244 63 lv [] M 0 0 = some r → ∃ lv M, q4_run F 244 137 lv [] M 0 0 = some r ∧ qa_O M ∧ qa_s M = σ ∧ q4_get lv 0 = some (.ref 99) ∧ q4_get lv 1 = some (.int (l1)) ∧ q4_get lv 2 = some (.int (l2)) ∧ q4_get lv 4 = some (.int ((qa_wh (fun s => s) (mc_244_99_p63 N l1 l2 l6 σ) n s).2.1)) ∧ q4_get lv 5 = some (.int ((qa_wh (fun s => s) (mc_244_99_p63 N l1 l2 l6 σ) n s).2.2)) ∧ q4_get lv 6 = some (.int (l6)) := by
  intro f
  induction f with
  | zero => intro n _ _ s lv M hM es _ _ _ _ _ _ _ h; cases h
  | succ f ih =>
    intro n hn hF s lv M hM es g0 g1 g2 g4 g5 g6 g7 h
    obtain ⟨n, rfl⟩ : ∃ n1, n = n1 + 1 := ⟨n - 1, by omega⟩
    replace hn : f ≤ n := Nat.le_of_succ_le_succ hn
    have hN := Nat.le_trans (Nat.le_of_succ_le hF) hN
    replace h := qa_iload (n := 7) (q := 65) (qa_d rfl h) rfl g7
    replace h := qa_aload (n := 0) (q := 66) (qa_e rfl h) rfl g0
    replace h := qa_gi (j := 0) (q := 69) (qa_e rfl h) rfl hM es rfl (by decide)
    by_cases c1 : s.1 < (σ 99 0)
    · replace h := qa_iff (q := 72) (qa_e rfl h) rfl (qa_F_ge c1)
      replace h := qa_aload (n := 0) (q := 73) (qa_e rfl h) rfl g0
      replace h := qa_iload (n := 1) (q := 74) (qa_e rfl h) rfl g1
      replace h := qa_iload (n := 6) (q := 76) (qa_e rfl h) rfl g6
      replace h := qa_iload (n := 7) (q := 78) (qa_e rfl h) rfl g7
      obtain ⟨r2, er2⟩ : ∃ x, x = (ma_188_99 N l1 l6 s.1 σ) := ⟨_, rfl⟩
      obtain ⟨M, h, hM, es⟩ := qa_c1 (y := 188) (as := [.ref 99, .int (l1), .int (l6), .int (s.1)]) (rest := []) (i := .invokevirtual 188) (q := 81) (qa_e rfl h) (Or.inl rfl) rfl rfl (by decide) rfl (fun r hc => mb_188_99 hN hM es hc)
      rw [← er2] at h
      obtain ⟨lv, M, h, hM, es, g0, g1, g2, g4, g5, g6, g7⟩ : ∃ lv M, q4_run f 244 89 lv [.int ((if r2 = (0 : Int32) then (1 : Int32) else (0 : Int32)))] M 0 0 = some r ∧ qa_O M ∧ qa_s M = σ ∧ q4_get lv 0 = some (.ref 99) ∧ q4_get lv 1 = some (.int (l1)) ∧ q4_get lv 2 = some (.int (l2)) ∧ q4_get lv 4 = some (.int (s.2.1)) ∧ q4_get lv 5 = some (.int (s.2.2)) ∧ q4_get lv 6 = some (.int (l6)) ∧ q4_get lv 7 = some (.int (s.1)) := by
        by_cases c3 : r2 = (0 : Int32)
        · replace h := qa_icf (q := 84) (qa_e rfl h) rfl (qa_F_ne c3)
          replace h := qa_push (z := (1 : Int32)) (q := 85) (qa_e rfl h) rfl (by decide)
          replace h := qa_goto (q := 89) (qa_e rfl h) rfl
          exact ⟨lv, M, (qa_hi1 c3 h), hM, es, g0, g1, g2, g4, g5, g6, g7⟩
        · replace h := qa_ict (q := 88) (qa_e rfl h) rfl (qa_T_ne c3)
          replace h := qa_push (z := (0 : Int32)) (q := 89) (qa_e rfl h) rfl (by decide)
          exact ⟨lv, M, (qa_hi0 c3 h), hM, es, g0, g1, g2, g4, g5, g6, g7⟩
      obtain ⟨lv, h, g, T⟩ := qa_istore (n := 8) (q := 91) (qa_e rfl h) rfl
      replace g0 := T _ _ g0 (by decide) (Or.inr rfl)
      replace g1 := T _ _ g1 (by decide) (Or.inr rfl)
      replace g2 := T _ _ g2 (by decide) (Or.inr rfl)
      replace g4 := T _ _ g4 (by decide) (Or.inr rfl)
      replace g5 := T _ _ g5 (by decide) (Or.inr rfl)
      replace g6 := T _ _ g6 (by decide) (Or.inr rfl)
      replace g7 := T _ _ g7 (by decide) (Or.inr rfl)
      have g8 := g
      clear g T
      replace h := qa_iload (n := 4) (q := 93) (qa_e rfl h) rfl g4
      replace h := qa_iload (n := 8) (q := 95) (qa_e rfl h) rfl g8
      obtain ⟨lv, M, h, hM, es, g0, g1, g2, g5, g6, g7, g8⟩ : ∃ lv M, q4_run f 244 103 lv [.int ((if (if r2 = (0 : Int32) then (1 : Int32) else (0 : Int32)) = (0 : Int32) then (0 : Int32) else (1 : Int32))), .int (s.2.1)] M 0 0 = some r ∧ qa_O M ∧ qa_s M = σ ∧ q4_get lv 0 = some (.ref 99) ∧ q4_get lv 1 = some (.int (l1)) ∧ q4_get lv 2 = some (.int (l2)) ∧ q4_get lv 5 = some (.int (s.2.2)) ∧ q4_get lv 6 = some (.int (l6)) ∧ q4_get lv 7 = some (.int (s.1)) ∧ q4_get lv 8 = some (.int ((if r2 = (0 : Int32) then (1 : Int32) else (0 : Int32)))) := by
        by_cases c4 : (if r2 = (0 : Int32) then (1 : Int32) else (0 : Int32)) = (0 : Int32)
        · replace h := qa_ict (q := 102) (qa_e rfl h) rfl (qa_T_eq c4)
          replace h := qa_push (z := (0 : Int32)) (q := 103) (qa_e rfl h) rfl (by decide)
          exact ⟨lv, M, (qa_hi1 c4 h), hM, es, g0, g1, g2, g5, g6, g7, g8⟩
        · replace h := qa_icf (q := 98) (qa_e rfl h) rfl (qa_F_eq c4)
          replace h := qa_push (z := (1 : Int32)) (q := 99) (qa_e rfl h) rfl (by decide)
          replace h := qa_goto (q := 103) (qa_e rfl h) rfl
          exact ⟨lv, M, (qa_hi0 c4 h), hM, es, g0, g1, g2, g5, g6, g7, g8⟩
      replace h := qa_iadd (q := 104) (qa_e rfl h) rfl
      obtain ⟨lv, h, g, T⟩ := qa_istore (n := 4) (q := 106) (qa_e rfl h) rfl
      replace g0 := T _ _ g0 (by decide) (Or.inr rfl)
      replace g1 := T _ _ g1 (by decide) (Or.inr rfl)
      replace g2 := T _ _ g2 (by decide) (Or.inr rfl)
      replace g5 := T _ _ g5 (by decide) (Or.inr rfl)
      replace g6 := T _ _ g6 (by decide) (Or.inr rfl)
      replace g7 := T _ _ g7 (by decide) (Or.inr rfl)
      replace g8 := T _ _ g8 (by decide) (Or.inr rfl)
      have g4 := g
      clear g T
      replace h := qa_iload (n := 8) (q := 108) (qa_e rfl h) rfl g8
      obtain ⟨lv, M, h, hM, es, g0, g1, g2, g4, g6, g7⟩ : ∃ lv M, q4_run f 244 129 lv [.int ((if (if r2 = (0 : Int32) then (1 : Int32) else (0 : Int32)) = (0 : Int32) then s.2.2 else (if s.2.2 < (0 : Int32) then (((10 : Int32) * l6) + s.1) else s.2.2)))] M 0 0 = some r ∧ qa_O M ∧ qa_s M = σ ∧ q4_get lv 0 = some (.ref 99) ∧ q4_get lv 1 = some (.int (l1)) ∧ q4_get lv 2 = some (.int (l2)) ∧ q4_get lv 4 = some (.int ((s.2.1 + (if (if r2 = (0 : Int32) then (1 : Int32) else (0 : Int32)) = (0 : Int32) then (0 : Int32) else (1 : Int32))))) ∧ q4_get lv 6 = some (.int (l6)) ∧ q4_get lv 7 = some (.int (s.1)) := by
        by_cases c5 : (if r2 = (0 : Int32) then (1 : Int32) else (0 : Int32)) = (0 : Int32)
        · replace h := qa_ict (q := 127) (qa_e rfl h) rfl (qa_T_eq c5)
          replace h := qa_iload (n := 5) (q := 129) (qa_e rfl h) rfl g5
          exact ⟨lv, M, (qa_hi1 c5 h), hM, es, g0, g1, g2, g4, g6, g7⟩
        · replace h := qa_icf (q := 111) (qa_e rfl h) rfl (qa_F_eq c5)
          replace h := qa_iload (n := 5) (q := 113) (qa_e rfl h) rfl g5
          obtain ⟨lv, M, h, hM, es, g0, g1, g2, g4, g6, g7⟩ : ∃ lv M, q4_run f 244 129 lv [.int ((if s.2.2 < (0 : Int32) then (((10 : Int32) * l6) + s.1) else s.2.2))] M 0 0 = some r ∧ qa_O M ∧ qa_s M = σ ∧ q4_get lv 0 = some (.ref 99) ∧ q4_get lv 1 = some (.int (l1)) ∧ q4_get lv 2 = some (.int (l2)) ∧ q4_get lv 4 = some (.int ((s.2.1 + (if (if r2 = (0 : Int32) then (1 : Int32) else (0 : Int32)) = (0 : Int32) then (0 : Int32) else (1 : Int32))))) ∧ q4_get lv 6 = some (.int (l6)) ∧ q4_get lv 7 = some (.int (s.1)) := by
            by_cases c6 : s.2.2 < (0 : Int32)
            · replace h := qa_icf (q := 116) (qa_e rfl h) rfl (qa_F_ge c6)
              replace h := qa_push (z := (10 : Int32)) (q := 118) (qa_e rfl h) rfl (by decide)
              replace h := qa_iload (n := 6) (q := 120) (qa_e rfl h) rfl g6
              replace h := qa_imul (q := 121) (qa_e rfl h) rfl
              replace h := qa_iload (n := 7) (q := 123) (qa_e rfl h) rfl g7
              replace h := qa_iadd (q := 124) (qa_e rfl h) rfl
              replace h := qa_goto (q := 129) (qa_e rfl h) rfl
              exact ⟨lv, M, (qa_hi1 c6 h), hM, es, g0, g1, g2, g4, g6, g7⟩
            · replace h := qa_ict (q := 127) (qa_e rfl h) rfl (qa_T_ge c6)
              replace h := qa_iload (n := 5) (q := 129) (qa_e rfl h) rfl g5
              exact ⟨lv, M, (qa_hi0 c6 h), hM, es, g0, g1, g2, g4, g6, g7⟩
          exact ⟨lv, M, (qa_hi0 c5 h), hM, es, g0, g1, g2, g4, g6, g7⟩
      obtain ⟨lv, h, g, T⟩ := qa_istore (n := 5) (q := 131) (qa_e rfl h) rfl
      replace g0 := T _ _ g0 (by decide) (Or.inr rfl)
      replace g1 := T _ _ g1 (by decide) (Or.inr rfl)
      replace g2 := T _ _ g2 (by decide) (Or.inr rfl)
      replace g4 := T _ _ g4 (by decide) (Or.inr rfl)
      replace g6 := T _ _ g6 (by decide) (Or.inr rfl)
      replace g7 := T _ _ g7 (by decide) (Or.inr rfl)
      have g5 := g
      clear g T
      obtain ⟨lv, h, g, T⟩ := qa_iinc (n := 7) (z := (1 : Int32)) (q := 134) (qa_e rfl h) rfl (by decide) g7
      replace g0 := T _ _ g0 (by decide) (Or.inr rfl)
      replace g1 := T _ _ g1 (by decide) (Or.inr rfl)
      replace g2 := T _ _ g2 (by decide) (Or.inr rfl)
      replace g4 := T _ _ g4 (by decide) (Or.inr rfl)
      replace g5 := T _ _ g5 (by decide) (Or.inr rfl)
      replace g6 := T _ _ g6 (by decide) (Or.inr rfl)
      replace g7 := g
      clear g T
      replace h := qa_goto (q := 63) (qa_e rfl h) rfl
      have e0 : mc_244_99_p63 N l1 l2 l6 σ s = .inl ((s.1 + (1 : Int32)), (s.2.1 + (if (if r2 = (0 : Int32) then (1 : Int32) else (0 : Int32)) = (0 : Int32) then (0 : Int32) else (1 : Int32))), (if (if r2 = (0 : Int32) then (1 : Int32) else (0 : Int32)) = (0 : Int32) then s.2.2 else (if s.2.2 < (0 : Int32) then (((10 : Int32) * l6) + s.1) else s.2.2))) := by exact Eq.trans (if_pos c1) (Eq.trans (qa_ie er2) (rfl))
      rw [qa_whl e0]
      exact ih n hn (Nat.le_of_succ_le hF) ((s.1 + (1 : Int32)), (s.2.1 + (if (if r2 = (0 : Int32) then (1 : Int32) else (0 : Int32)) = (0 : Int32) then (0 : Int32) else (1 : Int32))), (if (if r2 = (0 : Int32) then (1 : Int32) else (0 : Int32)) = (0 : Int32) then s.2.2 else (if s.2.2 < (0 : Int32) then (((10 : Int32) * l6) + s.1) else s.2.2))) _ _ hM es g0 g1 g2 g4 g5 g6 g7 h
    · replace h := qa_ift (q := 137) (qa_e rfl h) rfl (qa_T_ge c1)
      have e0 : mc_244_99_p63 N l1 l2 l6 σ s = .inr (s.1, s.2.1, s.2.2) := by exact Eq.trans (if_neg c1) (rfl)
      rw [qa_whr e0]
      exact ⟨_, _, q61_mono f F _ _ _ _ _ _ _ _ (Nat.le_of_succ_le hF) h, hM, es, g0, g1, g2, g4, g5, g6⟩
noncomputable def mc_244_99_p48 (N : Nat) (l1 : Int32) (l2 : Int32) (σ : qa_S) (s : Int32 × Int32 × Int32) : (Int32 × Int32 × Int32) ⊕ (Int32 × Int32 × Int32) :=
  if s.1 < (σ 99 0) then
    qa_in ((qa_wh (fun s => s) (mc_244_99_p63 N l1 l2 s.1 σ) N ((s.1 + (1 : Int32)), s.2.1, s.2.2))) fun r2 =>
    .inl ((s.1 + (1 : Int32)), r2.2.1, r2.2.2)
  else
    .inr (s.1, s.2.1, s.2.2)
theorem md_244_99_p48 {N F : Nat} {r : Option Value × q4_M} {l1 : Int32} {l2 : Int32} {σ : qa_S} (hN : F ≤ N) : ∀ f n, f ≤ n → f ≤ F → ∀ (s : Int32 × Int32 × Int32) (lv : List (Nat × Value)) (M : q4_M), qa_O M → qa_s M = σ → q4_get lv 0 = some (.ref 99) → q4_get lv 1 = some (.int (l1)) → q4_get lv 2 = some (.int (l2)) → q4_get lv 4 = some (.int (s.2.1)) → q4_get lv 5 = some (.int (s.2.2)) → q4_get lv 6 = some (.int (s.1)) → q4_run f 244 48 lv [] M 0 0 = some r → ∃ lv M, q4_run F 244 143 lv [] M 0 0 = some r ∧ qa_O M ∧ qa_s M = σ ∧ q4_get lv 2 = some (.int (l2)) ∧ q4_get lv 4 = some (.int ((qa_wh (fun s => s) (mc_244_99_p48 N l1 l2 σ) n s).2.1)) ∧ q4_get lv 5 = some (.int ((qa_wh (fun s => s) (mc_244_99_p48 N l1 l2 σ) n s).2.2)) := by
  intro f
  induction f with
  | zero => intro n _ _ s lv M hM es _ _ _ _ _ _ h; cases h
  | succ f ih =>
    intro n hn hF s lv M hM es g0 g1 g2 g4 g5 g6 h
    obtain ⟨n, rfl⟩ : ∃ n1, n = n1 + 1 := ⟨n - 1, by omega⟩
    replace hn : f ≤ n := Nat.le_of_succ_le_succ hn
    have hN := Nat.le_trans (Nat.le_of_succ_le hF) hN
    replace h := qa_iload (n := 6) (q := 50) (qa_d rfl h) rfl g6
    replace h := qa_aload (n := 0) (q := 51) (qa_e rfl h) rfl g0
    replace h := qa_gi (j := 0) (q := 54) (qa_e rfl h) rfl hM es rfl (by decide)
    by_cases c1 : s.1 < (σ 99 0)
    · replace h := qa_iff (q := 57) (qa_e rfl h) rfl (qa_F_ge c1)
      replace h := qa_iload (n := 6) (q := 59) (qa_e rfl h) rfl g6
      replace h := qa_push (z := (1 : Int32)) (q := 60) (qa_e rfl h) rfl (by decide)
      replace h := qa_iadd (q := 61) (qa_e rfl h) rfl
      obtain ⟨lv, h, g, T⟩ := qa_istore (n := 7) (q := 63) (qa_e rfl h) rfl
      replace g0 := T _ _ g0 (by decide) (Or.inr rfl)
      replace g1 := T _ _ g1 (by decide) (Or.inr rfl)
      replace g2 := T _ _ g2 (by decide) (Or.inr rfl)
      replace g4 := T _ _ g4 (by decide) (Or.inr rfl)
      replace g5 := T _ _ g5 (by decide) (Or.inr rfl)
      replace g6 := T _ _ g6 (by decide) (Or.inr rfl)
      have g7 := g
      clear g T
      obtain ⟨r2, er2⟩ : ∃ x, x = (qa_wh (fun s => s) (mc_244_99_p63 N l1 l2 s.1 σ) N ((s.1 + (1 : Int32)), s.2.1, s.2.2)) := ⟨_, rfl⟩
      have L := md_244_99_p63 (l1 := l1) (l2 := l2) (l6 := s.1) (σ := σ) (F := f) (N := N) (r := r) hN f N hN (Nat.le_refl f) ((s.1 + (1 : Int32)), s.2.1, s.2.2) _ _ hM es g0 g1 g2 g4 g5 g6 g7 h
      rw [← er2] at L
      obtain ⟨lv, M, h, hM, es, g0, g1, g2, g4, g5, g6⟩ := L
      obtain ⟨lv, h, g, T⟩ := qa_iinc (n := 6) (z := (1 : Int32)) (q := 140) (qa_e rfl h) rfl (by decide) g6
      replace g0 := T _ _ g0 (by decide) (Or.inr rfl)
      replace g1 := T _ _ g1 (by decide) (Or.inr rfl)
      replace g2 := T _ _ g2 (by decide) (Or.inr rfl)
      replace g4 := T _ _ g4 (by decide) (Or.inr rfl)
      replace g5 := T _ _ g5 (by decide) (Or.inr rfl)
      replace g6 := g
      clear g T
      replace h := qa_goto (q := 48) (qa_e rfl h) rfl
      have e0 : mc_244_99_p48 N l1 l2 σ s = .inl ((s.1 + (1 : Int32)), r2.2.1, r2.2.2) := by exact Eq.trans (if_pos c1) (Eq.trans (qa_ie er2) (rfl))
      rw [qa_whl e0]
      exact ih n hn (Nat.le_of_succ_le hF) ((s.1 + (1 : Int32)), r2.2.1, r2.2.2) _ _ hM es g0 g1 g2 g4 g5 g6 h
    · replace h := qa_ift (q := 143) (qa_e rfl h) rfl (qa_T_ge c1)
      have e0 : mc_244_99_p48 N l1 l2 σ s = .inr (s.1, s.2.1, s.2.2) := by exact Eq.trans (if_neg c1) (rfl)
      rw [qa_whr e0]
      exact ⟨_, _, q61_mono f F _ _ _ _ _ _ _ _ (Nat.le_of_succ_le hF) h, hM, es, g2, g4, g5⟩
/-- BuriedBySevensModel, blind, (II)I -/
noncomputable def ma_244_99 (N : Nat) (a1 : Int32) (a2 : Int32) (σ : qa_S) : Int32 × qa_S :=
  qa_in (qa_u σ 99 9 (0 : Int32)) fun m1 =>
  if (if (ma_171_99 a1 m1) = (0 : Int32) then (-1 : Int32) else (ma_201 (0 : Int32) a2 (1 : Int32))) < (0 : Int32) then
    qa_in ((ma_152_99 (if (ma_171_99 a1 m1) = (0 : Int32) then (-1 : Int32) else (ma_201 (0 : Int32) a2 (1 : Int32))) m1)) fun r4 =>
    (r4.1, r4.2)
  else
    qa_in ((ma_181_99 N m1)) fun m5 =>
    qa_in ((qa_wh (fun s => s) (mc_244_99_p48 N a1 a2 m5) N ((0 : Int32), (0 : Int32), (-9 : Int32)))) fun r6 =>
    ((if a2 = (0 : Int32) then r6.2.1 else r6.2.2), m5)
theorem mb_244_99 {f N : Nat} (hN : f ≤ N) {M : q4_M} {r : Option Value × q4_M} {σ : qa_S} {a1 : Int32} {a2 : Int32} (hM : qa_O M) (es : qa_s M = σ) (h : q4_run f 244 0 (lv_args 0 [.ref 99, .int (a1), .int (a2)]) [] M 0 0 = some r) : r.1 = some (.int ((ma_244_99 N a1 a2 σ).1)) ∧ qa_O r.2 ∧ qa_s r.2 = (ma_244_99 N a1 a2 σ).2 := by
  obtain ⟨lv, el⟩ : ∃ l, l = lv_args 0 [.ref 99, .int (a1), .int (a2)] := ⟨_, rfl⟩
  have g0 : q4_get lv 0 = some (.ref 99) := by rw [el]; rfl
  have g1 : q4_get lv 1 = some (.int (a1)) := by rw [el]; rfl
  have g2 : q4_get lv 2 = some (.int (a2)) := by rw [el]; rfl
  rw [← el] at h
  clear el
  replace h := qa_aload (n := 0) (q := 1) (qa_e rfl h) rfl g0
  replace h := qa_push (z := (0 : Int32)) (q := 2) (qa_e rfl h) rfl (by decide)
  obtain ⟨m1, em1⟩ : ∃ x, x = qa_u σ 99 9 (0 : Int32) := ⟨_, rfl⟩
  obtain ⟨M, h, hM, es⟩ := qa_pf (j := 9) (q := 5) (qa_e rfl h) rfl hM es rfl (by decide)
  rw [← em1] at es
  replace h := qa_aload (n := 0) (q := 6) (qa_e rfl h) rfl g0
  replace h := qa_iload (n := 1) (q := 7) (qa_e rfl h) rfl g1
  obtain ⟨M, h, hM, es⟩ := qa_c1 (y := 171) (as := [.ref 99, .int (a1)]) (rest := []) (i := .invokevirtual 171) (q := 10) (qa_e rfl h) (Or.inl rfl) rfl rfl (by decide) rfl (fun r hc => mb_171_99 hM es hc)
  obtain ⟨lv, M, h, hM, es, g0, g1, g2⟩ : ∃ lv M, q4_run f 244 23 lv [.int ((if (ma_171_99 a1 m1) = (0 : Int32) then (-1 : Int32) else (ma_201 (0 : Int32) a2 (1 : Int32))))] M 0 0 = some r ∧ qa_O M ∧ qa_s M = m1 ∧ q4_get lv 0 = some (.ref 99) ∧ q4_get lv 1 = some (.int (a1)) ∧ q4_get lv 2 = some (.int (a2)) := by
    by_cases c2 : (ma_171_99 a1 m1) = (0 : Int32)
    · replace h := qa_ict (q := 22) (qa_e rfl h) rfl (qa_T_eq c2)
      replace h := qa_push (z := (-1 : Int32)) (q := 23) (qa_e rfl h) rfl (by decide)
      exact ⟨lv, M, (qa_hi1 c2 h), hM, es, g0, g1, g2⟩
    · replace h := qa_icf (q := 13) (qa_e rfl h) rfl (qa_F_eq c2)
      replace h := qa_push (z := (0 : Int32)) (q := 14) (qa_e rfl h) rfl (by decide)
      replace h := qa_iload (n := 2) (q := 15) (qa_e rfl h) rfl g2
      replace h := qa_push (z := (1 : Int32)) (q := 16) (qa_e rfl h) rfl (by decide)
      obtain ⟨M, h, hM, es⟩ := qa_c1 (y := 201) (as := [.int ((0 : Int32)), .int (a2), .int ((1 : Int32))]) (rest := []) (i := .invokestatic 201) (q := 19) (qa_e rfl h) (Or.inr rfl) rfl rfl (by decide) rfl (fun r hc => mb_201 hM es hc)
      replace h := qa_goto (q := 23) (qa_e rfl h) rfl
      exact ⟨lv, M, (qa_hi0 c2 h), hM, es, g0, g1, g2⟩
  obtain ⟨lv, h, g, T⟩ := qa_istore (n := 3) (q := 24) (qa_e rfl h) rfl
  replace g0 := T _ _ g0 (by decide) (Or.inr rfl)
  replace g1 := T _ _ g1 (by decide) (Or.inr rfl)
  replace g2 := T _ _ g2 (by decide) (Or.inr rfl)
  have g3 := g
  clear g T
  replace h := qa_iload (n := 3) (q := 25) (qa_e rfl h) rfl g3
  by_cases c3 : (if (ma_171_99 a1 m1) = (0 : Int32) then (-1 : Int32) else (ma_201 (0 : Int32) a2 (1 : Int32))) < (0 : Int32)
  · replace h := qa_icf (q := 28) (qa_e rfl h) rfl (qa_F_ge c3)
    replace h := qa_aload (n := 0) (q := 29) (qa_e rfl h) rfl g0
    replace h := qa_iload (n := 3) (q := 30) (qa_e rfl h) rfl g3
    obtain ⟨r4, er4⟩ : ∃ x, x = (ma_152_99 (if (ma_171_99 a1 m1) = (0 : Int32) then (-1 : Int32) else (ma_201 (0 : Int32) a2 (1 : Int32))) m1) := ⟨_, rfl⟩
    obtain ⟨M, h, hM, es⟩ := qa_c1 (y := 152) (as := [.ref 99, .int ((if (ma_171_99 a1 m1) = (0 : Int32) then (-1 : Int32) else (ma_201 (0 : Int32) a2 (1 : Int32))))]) (rest := []) (i := .invokevirtual 152) (q := 33) (qa_e rfl h) (Or.inl rfl) rfl rfl (by decide) rfl (fun r hc => mb_152_99 hM es hc)
    rw [← er4] at h es
    have er := qa_ri (qa_e rfl h)
    subst er
    have e0 : ma_244_99 N a1 a2 σ = (r4.1, r4.2) := by exact Eq.trans (qa_ie em1) (Eq.trans (if_pos c3) (Eq.trans (qa_ie er4) (rfl)))
    rw [e0]
    exact ⟨rfl, hM, es⟩
  · replace h := qa_ict (q := 34) (qa_e rfl h) rfl (qa_T_ge c3)
    replace h := qa_aload (n := 0) (q := 35) (qa_e rfl h) rfl g0
    obtain ⟨m5, em5⟩ : ∃ x, x = (ma_181_99 N m1) := ⟨_, rfl⟩
    obtain ⟨M, h, hM, es⟩ := qa_c0 (y := 181) (as := [.ref 99]) (rest := []) (i := .invokevirtual 181) (q := 38) (qa_e rfl h) (Or.inl rfl) rfl rfl (by decide) rfl (fun r hc => mb_181_99 hN hM es hc)
    rw [← em5] at es
    replace h := qa_push (z := (0 : Int32)) (q := 39) (qa_e rfl h) rfl (by decide)
    obtain ⟨lv, h, g, T⟩ := qa_istore (n := 4) (q := 41) (qa_e rfl h) rfl
    replace g0 := T _ _ g0 (by decide) (Or.inr rfl)
    replace g1 := T _ _ g1 (by decide) (Or.inr rfl)
    replace g2 := T _ _ g2 (by decide) (Or.inr rfl)
    have g4 := g
    clear g T
    replace h := qa_push (z := (-9 : Int32)) (q := 43) (qa_e rfl h) rfl (by decide)
    obtain ⟨lv, h, g, T⟩ := qa_istore (n := 5) (q := 45) (qa_e rfl h) rfl
    replace g0 := T _ _ g0 (by decide) (Or.inr rfl)
    replace g1 := T _ _ g1 (by decide) (Or.inr rfl)
    replace g2 := T _ _ g2 (by decide) (Or.inr rfl)
    replace g4 := T _ _ g4 (by decide) (Or.inr rfl)
    have g5 := g
    clear g T
    replace h := qa_push (z := (0 : Int32)) (q := 46) (qa_e rfl h) rfl (by decide)
    obtain ⟨lv, h, g, T⟩ := qa_istore (n := 6) (q := 48) (qa_e rfl h) rfl
    replace g0 := T _ _ g0 (by decide) (Or.inr rfl)
    replace g1 := T _ _ g1 (by decide) (Or.inr rfl)
    replace g2 := T _ _ g2 (by decide) (Or.inr rfl)
    replace g4 := T _ _ g4 (by decide) (Or.inr rfl)
    replace g5 := T _ _ g5 (by decide) (Or.inr rfl)
    have g6 := g
    clear g T
    obtain ⟨r6, er6⟩ : ∃ x, x = (qa_wh (fun s => s) (mc_244_99_p48 N a1 a2 m5) N ((0 : Int32), (0 : Int32), (-9 : Int32))) := ⟨_, rfl⟩
    have L := md_244_99_p48 (l1 := a1) (l2 := a2) (σ := m5) (F := f) (N := N) (r := r) hN f N hN (Nat.le_refl f) ((0 : Int32), (0 : Int32), (-9 : Int32)) _ _ hM es g0 g1 g2 g4 g5 g6 h
    rw [← er6] at L
    obtain ⟨lv, M, h, hM, es, g2, g4, g5⟩ := L
    replace h := qa_iload (n := 2) (q := 144) (qa_e rfl h) rfl g2
    obtain ⟨lv, M, h, hM, es⟩ : ∃ lv M, q4_run f 244 154 lv [.int ((if a2 = (0 : Int32) then r6.2.1 else r6.2.2))] M 0 0 = some r ∧ qa_O M ∧ qa_s M = m5 := by
      by_cases c7 : a2 = (0 : Int32)
      · replace h := qa_icf (q := 147) (qa_e rfl h) rfl (qa_F_ne c7)
        replace h := qa_iload (n := 4) (q := 149) (qa_e rfl h) rfl g4
        replace h := qa_goto (q := 154) (qa_e rfl h) rfl
        exact ⟨lv, M, (qa_hi1 c7 h), hM, es⟩
      · replace h := qa_ict (q := 152) (qa_e rfl h) rfl (qa_T_ne c7)
        replace h := qa_iload (n := 5) (q := 154) (qa_e rfl h) rfl g5
        exact ⟨lv, M, (qa_hi0 c7 h), hM, es⟩
    have er := qa_ri (qa_e rfl h)
    subst er
    have e0 : ma_244_99 N a1 a2 σ = ((if a2 = (0 : Int32) then r6.2.1 else r6.2.2), m5) := by exact Eq.trans (qa_ie em1) (Eq.trans (if_neg c3) (Eq.trans (qa_ie em5) (Eq.trans (qa_ie er6) (rfl))))
    rw [e0]
    exact ⟨rfl, hM, es⟩
noncomputable def mc_245_99_p61 (N : Nat) (l1 : Int32) (l2 : Int32) (l3 : Int32) (l4 : Int32) (l6 : Int32) (σ : qa_S) (s : Int32 × Int32) : (Int32 × Int32) ⊕ (Int32 × Int32) :=
  if s.1 < (σ 99 5) then
    qa_in ((ma_188_99 N s.1 l4 l6 σ)) fun r3 =>
    .inl ((s.1 + (1 : Int32)), (s.2 + (if l6 = l4 then (0 : Int32) else (if r3 = (0 : Int32) then (0 : Int32) else (1 : Int32)))))
  else
    .inr (s.1, s.2)
theorem md_245_99_p61 {N F : Nat} {r : Option Value × q4_M} {l1 : Int32} {l2 : Int32} {l3 : Int32} {l4 : Int32} {l6 : Int32} {σ : qa_S} (hN : F ≤ N) : ∀ f n, f ≤ n → f ≤ F → ∀ (s : Int32 × Int32) (lv : List (Nat × Value)) (M : q4_M), qa_O M → qa_s M = σ → q4_get lv 0 = some (.ref 99) → q4_get lv 1 = some (.int (l1)) → q4_get lv 2 = some (.int (l2)) → q4_get lv 3 = some (.int (l3)) → q4_get lv 4 = some (.int (l4)) → q4_get lv 5 = some (.int (s.2)) → q4_get lv 6 = some (.int (l6)) → q4_get lv 7 = some (.int (s.1)) → q4_run f 245 61 lv [] M 0 0 = some r → ∃ lv M, q4_run F 245 106 lv [] M 0 0 = some r ∧ qa_O M ∧ qa_s M = σ ∧ q4_get lv 0 = some (.ref 99) ∧ q4_get lv 1 = some (.int (l1)) ∧ q4_get lv 2 = some (.int (l2)) ∧ q4_get lv 3 = some (.int (l3)) ∧ q4_get lv 4 = some (.int (l4)) ∧ q4_get lv 5 = some (.int ((qa_wh (fun s => s) (mc_245_99_p61 N l1 l2 l3 l4 l6 σ) n s).2)) ∧ q4_get lv 6 = some (.int (l6)) := by
  intro f
  induction f with
  | zero => intro n _ _ s lv M hM es _ _ _ _ _ _ _ _ h; cases h
  | succ f ih =>
    intro n hn hF s lv M hM es g0 g1 g2 g3 g4 g5 g6 g7 h
    obtain ⟨n, rfl⟩ : ∃ n1, n = n1 + 1 := ⟨n - 1, by omega⟩
    replace hn : f ≤ n := Nat.le_of_succ_le_succ hn
    have hN := Nat.le_trans (Nat.le_of_succ_le hF) hN
    replace h := qa_iload (n := 7) (q := 63) (qa_d rfl h) rfl g7
    replace h := qa_aload (n := 0) (q := 64) (qa_e rfl h) rfl g0
    replace h := qa_gi (j := 5) (q := 67) (qa_e rfl h) rfl hM es rfl (by decide)
    by_cases c1 : s.1 < (σ 99 5)
    · replace h := qa_iff (q := 70) (qa_e rfl h) rfl (qa_F_ge c1)
      replace h := qa_iload (n := 5) (q := 72) (qa_e rfl h) rfl g5
      replace h := qa_iload (n := 6) (q := 74) (qa_e rfl h) rfl g6
      replace h := qa_iload (n := 4) (q := 76) (qa_e rfl h) rfl g4
      obtain ⟨r3, er3⟩ : ∃ x, x = (ma_188_99 N s.1 l4 l6 σ) := ⟨_, rfl⟩
      obtain ⟨lv, M, h, hM, es, g0, g1, g2, g3, g4, g6, g7⟩ : ∃ lv M, q4_run f 245 97 lv [.int ((if l6 = l4 then (0 : Int32) else (if r3 = (0 : Int32) then (0 : Int32) else (1 : Int32)))), .int (s.2)] M 0 0 = some r ∧ qa_O M ∧ qa_s M = σ ∧ q4_get lv 0 = some (.ref 99) ∧ q4_get lv 1 = some (.int (l1)) ∧ q4_get lv 2 = some (.int (l2)) ∧ q4_get lv 3 = some (.int (l3)) ∧ q4_get lv 4 = some (.int (l4)) ∧ q4_get lv 6 = some (.int (l6)) ∧ q4_get lv 7 = some (.int (s.1)) := by
        by_cases c2 : l6 = l4
        · replace h := qa_ift (q := 96) (qa_e rfl h) rfl (qa_T_eq c2)
          replace h := qa_push (z := (0 : Int32)) (q := 97) (qa_e rfl h) rfl (by decide)
          exact ⟨lv, M, (qa_hi1 c2 h), hM, es, g0, g1, g2, g3, g4, g6, g7⟩
        · replace h := qa_iff (q := 79) (qa_e rfl h) rfl (qa_F_eq c2)
          replace h := qa_aload (n := 0) (q := 80) (qa_e rfl h) rfl g0
          replace h := qa_iload (n := 7) (q := 82) (qa_e rfl h) rfl g7
          replace h := qa_iload (n := 4) (q := 84) (qa_e rfl h) rfl g4
          replace h := qa_iload (n := 6) (q := 86) (qa_e rfl h) rfl g6
          obtain ⟨M, h, hM, es⟩ := qa_c1 (y := 188) (as := [.ref 99, .int (s.1), .int (l4), .int (l6)]) (rest := [.int (s.2)]) (i := .invokevirtual 188) (q := 89) (qa_e rfl h) (Or.inl rfl) rfl rfl (by decide) rfl (fun r hc => mb_188_99 hN hM es hc)
          rw [← er3] at h
          obtain ⟨lv, M, h, hM, es, g0, g1, g2, g3, g4, g6, g7⟩ : ∃ lv M, q4_run f 245 97 lv [.int ((if r3 = (0 : Int32) then (0 : Int32) else (1 : Int32))), .int (s.2)] M 0 0 = some r ∧ qa_O M ∧ qa_s M = σ ∧ q4_get lv 0 = some (.ref 99) ∧ q4_get lv 1 = some (.int (l1)) ∧ q4_get lv 2 = some (.int (l2)) ∧ q4_get lv 3 = some (.int (l3)) ∧ q4_get lv 4 = some (.int (l4)) ∧ q4_get lv 6 = some (.int (l6)) ∧ q4_get lv 7 = some (.int (s.1)) := by
            by_cases c4 : r3 = (0 : Int32)
            · replace h := qa_ict (q := 96) (qa_e rfl h) rfl (qa_T_eq c4)
              replace h := qa_push (z := (0 : Int32)) (q := 97) (qa_e rfl h) rfl (by decide)
              exact ⟨lv, M, (qa_hi1 c4 h), hM, es, g0, g1, g2, g3, g4, g6, g7⟩
            · replace h := qa_icf (q := 92) (qa_e rfl h) rfl (qa_F_eq c4)
              replace h := qa_push (z := (1 : Int32)) (q := 93) (qa_e rfl h) rfl (by decide)
              replace h := qa_goto (q := 97) (qa_e rfl h) rfl
              exact ⟨lv, M, (qa_hi0 c4 h), hM, es, g0, g1, g2, g3, g4, g6, g7⟩
          exact ⟨lv, M, (qa_hi0 c2 h), hM, es, g0, g1, g2, g3, g4, g6, g7⟩
      replace h := qa_iadd (q := 98) (qa_e rfl h) rfl
      obtain ⟨lv, h, g, T⟩ := qa_istore (n := 5) (q := 100) (qa_e rfl h) rfl
      replace g0 := T _ _ g0 (by decide) (Or.inr rfl)
      replace g1 := T _ _ g1 (by decide) (Or.inr rfl)
      replace g2 := T _ _ g2 (by decide) (Or.inr rfl)
      replace g3 := T _ _ g3 (by decide) (Or.inr rfl)
      replace g4 := T _ _ g4 (by decide) (Or.inr rfl)
      replace g6 := T _ _ g6 (by decide) (Or.inr rfl)
      replace g7 := T _ _ g7 (by decide) (Or.inr rfl)
      have g5 := g
      clear g T
      obtain ⟨lv, h, g, T⟩ := qa_iinc (n := 7) (z := (1 : Int32)) (q := 103) (qa_e rfl h) rfl (by decide) g7
      replace g0 := T _ _ g0 (by decide) (Or.inr rfl)
      replace g1 := T _ _ g1 (by decide) (Or.inr rfl)
      replace g2 := T _ _ g2 (by decide) (Or.inr rfl)
      replace g3 := T _ _ g3 (by decide) (Or.inr rfl)
      replace g4 := T _ _ g4 (by decide) (Or.inr rfl)
      replace g5 := T _ _ g5 (by decide) (Or.inr rfl)
      replace g6 := T _ _ g6 (by decide) (Or.inr rfl)
      replace g7 := g
      clear g T
      replace h := qa_goto (q := 61) (qa_e rfl h) rfl
      have e0 : mc_245_99_p61 N l1 l2 l3 l4 l6 σ s = .inl ((s.1 + (1 : Int32)), (s.2 + (if l6 = l4 then (0 : Int32) else (if r3 = (0 : Int32) then (0 : Int32) else (1 : Int32))))) := by exact Eq.trans (if_pos c1) (Eq.trans (qa_ie er3) (rfl))
      rw [qa_whl e0]
      exact ih n hn (Nat.le_of_succ_le hF) ((s.1 + (1 : Int32)), (s.2 + (if l6 = l4 then (0 : Int32) else (if r3 = (0 : Int32) then (0 : Int32) else (1 : Int32))))) _ _ hM es g0 g1 g2 g3 g4 g5 g6 g7 h
    · replace h := qa_ift (q := 106) (qa_e rfl h) rfl (qa_T_ge c1)
      have e0 : mc_245_99_p61 N l1 l2 l3 l4 l6 σ s = .inr (s.1, s.2) := by exact Eq.trans (if_neg c1) (rfl)
      rw [qa_whr e0]
      exact ⟨_, _, q61_mono f F _ _ _ _ _ _ _ _ (Nat.le_of_succ_le hF) h, hM, es, g0, g1, g2, g3, g4, g5, g6⟩
