noncomputable def mc_100_3_p8 (N : Nat) (s : Int32 × Int32 × qa_S) : (Int32 × Int32 × qa_S) ⊕ (Int32 × Int32 × qa_S) :=
  if s.1 < (s.2.2 4 0) then
    qa_in ((ma_101_3 N s.1 s.2.2)) fun m3 =>
    qa_in ((ma_99_3 N 94 95 m3)) fun r4 =>
    qa_in ((if (s.2.2 7 s.1.toNatClampNeg) = (0 : Int32) then s.2.2 else m3)) fun m6 =>
    .inl ((s.1 + (1 : Int32)), (if (s.2.2 7 s.1.toNatClampNeg) = (0 : Int32) then s.2.1 else (if r4 = (0 : Int32) then (s.2.1 ||| ((1 : Int32) <<< (s.1 &&& 31))) else s.2.1)), m6)
  else
    .inr (s.1, s.2.1, s.2.2)
theorem md_100_3_p8 {N F : Nat} {r : Option Value × q4_M} (hN : F ≤ N) : ∀ f n, f ≤ n → f ≤ F → ∀ (s : Int32 × Int32 × qa_S) (lv : List (Nat × Value)) (M : q4_M), qa_O M → qa_s M = s.2.2 → q4_get lv 0 = some (.ref 3) → q4_get lv 1 = some (.int (s.2.1)) → q4_get lv 2 = some (.int (s.1)) → q4_run f 100 8 lv [] M 0 0 = some r → ∃ lv M, q4_run F 100 66 lv [] M 0 0 = some r ∧ qa_O M ∧ qa_s M = (qa_wh (fun s => s) (mc_100_3_p8 N) n s).2.2 ∧ q4_get lv 1 = some (.int ((qa_wh (fun s => s) (mc_100_3_p8 N) n s).2.1)) := by
  intro f
  induction f with
  | zero => intro n _ _ s lv M hM es _ _ _ h; cases h
  | succ f ih =>
    intro n hn hF s lv M hM es g0 g1 g2 h
    obtain ⟨n, rfl⟩ : ∃ n1, n = n1 + 1 := ⟨n - 1, by omega⟩
    replace hn : f ≤ n := Nat.le_of_succ_le_succ hn
    have hN := Nat.le_trans (Nat.le_of_succ_le hF) hN
    replace h := qa_iload (n := 2) (q := 9) (qa_d rfl h) rfl g2
    replace h := qa_aload (n := 0) (q := 10) (qa_e rfl h) rfl g0
    replace h := qa_gr (b := 4) (j := 0) (q := 13) (qa_e rfl h) rfl hM rfl (by decide)
    replace h := qa_gi (j := 0) (q := 16) (qa_e rfl h) rfl hM es rfl (by decide)
    by_cases c1 : s.1 < (s.2.2 4 0)
    · replace h := qa_iff (q := 19) (qa_e rfl h) rfl (qa_F_ge c1)
      replace h := qa_aload (n := 0) (q := 20) (qa_e rfl h) rfl g0
      replace h := qa_gr (b := 4) (j := 0) (q := 23) (qa_e rfl h) rfl hM rfl (by decide)
      replace h := qa_gr (b := 7) (j := 4) (q := 26) (qa_e rfl h) rfl hM rfl (by decide)
      replace h := qa_iload (n := 2) (q := 27) (qa_e rfl h) rfl g2
      replace h := qa_iaload (jn := s.1.toNatClampNeg) (q := 28) (qa_e rfl h) rfl hM es rfl
      obtain ⟨m3, em3⟩ : ∃ x, x = (ma_101_3 N s.1 s.2.2) := ⟨_, rfl⟩
      obtain ⟨r4, er4⟩ : ∃ x, x = (ma_99_3 N 94 95 m3) := ⟨_, rfl⟩
      obtain ⟨m6, em6⟩ : ∃ x, x = (if (s.2.2 7 s.1.toNatClampNeg) = (0 : Int32) then s.2.2 else m3) := ⟨_, rfl⟩
      obtain ⟨lv, M, h, hM, es, g0, g1, g2⟩ : ∃ lv M, q4_run f 100 60 lv [] M 0 0 = some r ∧ qa_O M ∧ qa_s M = m6 ∧ q4_get lv 0 = some (.ref 3) ∧ q4_get lv 1 = some (.int ((if (s.2.2 7 s.1.toNatClampNeg) = (0 : Int32) then s.2.1 else (if r4 = (0 : Int32) then (s.2.1 ||| ((1 : Int32) <<< (s.1 &&& 31))) else s.2.1)))) ∧ q4_get lv 2 = some (.int (s.1)) := by
        by_cases c2 : (s.2.2 7 s.1.toNatClampNeg) = (0 : Int32)
        · replace h := qa_icf (q := 31) (qa_e rfl h) rfl (qa_F_ne c2)
          replace h := qa_goto (q := 60) (qa_e rfl h) rfl
          exact ⟨lv, M, h, hM, ((qa_ms1 c2 es).trans em6.symm), g0, (qa_gi1 c2 g1), g2⟩
        · replace h := qa_ict (q := 34) (qa_e rfl h) rfl (qa_T_ne c2)
          replace h := qa_aload (n := 0) (q := 35) (qa_e rfl h) rfl g0
          replace h := qa_iload (n := 2) (q := 36) (qa_e rfl h) rfl g2
          obtain ⟨M, h, hM, es⟩ := qa_c0 (y := 101) (as := [.ref 3, .int (s.1)]) (rest := []) (i := .invokevirtual 101) (q := 39) (qa_e rfl h) (Or.inl rfl) rfl rfl (by decide) rfl (fun r hc => mb_101_3 hN hM es hc)
          rw [← em3] at es
          replace h := qa_aload (n := 0) (q := 40) (qa_e rfl h) rfl g0
          replace h := qa_aload (n := 0) (q := 41) (qa_e rfl h) rfl g0
          replace h := qa_gr (b := 94) (j := 11) (q := 44) (qa_e rfl h) rfl hM rfl (by decide)
          replace h := qa_aload (n := 0) (q := 45) (qa_e rfl h) rfl g0
          replace h := qa_gr (b := 95) (j := 12) (q := 48) (qa_e rfl h) rfl hM rfl (by decide)
          obtain ⟨M, h, hM, es⟩ := qa_c1 (y := 99) (as := [.ref 3, .ref 94, .ref 95]) (rest := []) (i := .invokevirtual 99) (q := 51) (qa_e rfl h) (Or.inl rfl) rfl rfl (by decide) rfl (fun r hc => mb_99_3 hN hM es hc)
          rw [← er4] at h
          obtain ⟨lv, M, h, hM, es, g0, g1, g2⟩ : ∃ lv M, q4_run f 100 60 lv [] M 0 0 = some r ∧ qa_O M ∧ qa_s M = m3 ∧ q4_get lv 0 = some (.ref 3) ∧ q4_get lv 1 = some (.int ((if r4 = (0 : Int32) then (s.2.1 ||| ((1 : Int32) <<< (s.1 &&& 31))) else s.2.1))) ∧ q4_get lv 2 = some (.int (s.1)) := by
            by_cases c5 : r4 = (0 : Int32)
            · replace h := qa_icf (q := 54) (qa_e rfl h) rfl (qa_F_ne c5)
              replace h := qa_iload (n := 1) (q := 55) (qa_e rfl h) rfl g1
              replace h := qa_push (z := (1 : Int32)) (q := 56) (qa_e rfl h) rfl (by decide)
              replace h := qa_iload (n := 2) (q := 57) (qa_e rfl h) rfl g2
              replace h := qa_ishl (q := 58) (qa_e rfl h) rfl
              replace h := qa_ior (q := 59) (qa_e rfl h) rfl
              obtain ⟨lv, h, g, T⟩ := qa_istore (n := 1) (q := 60) (qa_e rfl h) rfl
              replace g0 := T _ _ g0 (by decide) (Or.inr rfl)
              replace g2 := T _ _ g2 (by decide) (Or.inr rfl)
              have g1 := g
              clear g T
              exact ⟨lv, M, h, hM, es, g0, (qa_gi1 c5 g1), g2⟩
            · replace h := qa_ict (q := 60) (qa_e rfl h) rfl (qa_T_ne c5)
              exact ⟨lv, M, h, hM, es, g0, (qa_gi0 c5 g1), g2⟩
          exact ⟨lv, M, h, hM, ((qa_ms0 c2 es).trans em6.symm), g0, (qa_gi0 c2 g1), g2⟩
      obtain ⟨lv, h, g, T⟩ := qa_iinc (n := 2) (z := (1 : Int32)) (q := 63) (qa_e rfl h) rfl (by decide) g2
      replace g0 := T _ _ g0 (by decide) (Or.inr rfl)
      replace g1 := T _ _ g1 (by decide) (Or.inr rfl)
      replace g2 := g
      clear g T
      replace h := qa_goto (q := 8) (qa_e rfl h) rfl
      have e0 : mc_100_3_p8 N s = .inl ((s.1 + (1 : Int32)), (if (s.2.2 7 s.1.toNatClampNeg) = (0 : Int32) then s.2.1 else (if r4 = (0 : Int32) then (s.2.1 ||| ((1 : Int32) <<< (s.1 &&& 31))) else s.2.1)), m6) := by exact Eq.trans (if_pos c1) (Eq.trans (qa_ie em3) (Eq.trans (qa_ie er4) (Eq.trans (qa_ie em6) (rfl))))
      rw [qa_whl e0]
      exact ih n hn (Nat.le_of_succ_le hF) ((s.1 + (1 : Int32)), (if (s.2.2 7 s.1.toNatClampNeg) = (0 : Int32) then s.2.1 else (if r4 = (0 : Int32) then (s.2.1 ||| ((1 : Int32) <<< (s.1 &&& 31))) else s.2.1)), m6) _ _ hM es g0 g1 g2 h
    · replace h := qa_ift (q := 66) (qa_e rfl h) rfl (qa_T_ge c1)
      have e0 : mc_100_3_p8 N s = .inr (s.1, s.2.1, s.2.2) := by exact Eq.trans (if_neg c1) (rfl)
      rw [qa_whr e0]
      exact ⟨_, _, q61_mono f F _ _ _ _ _ _ _ _ (Nat.le_of_succ_le hF) h, hM, es, g1⟩
/-- BuriedBySevens, emptyOnes, ()I -/
noncomputable def ma_100_3 (N : Nat) (σ : qa_S) : Int32 × qa_S :=
  qa_in ((ma_46_3 N σ)) fun m1 =>
  qa_in ((qa_wh (fun s => s) (mc_100_3_p8 N) N ((0 : Int32), (0 : Int32), m1))) fun r2 =>
  (r2.2.1, r2.2.2)
theorem mb_100_3 {f N : Nat} (hN : f ≤ N) {M : q4_M} {r : Option Value × q4_M} {σ : qa_S} (hM : qa_O M) (es : qa_s M = σ) (h : q4_run f 100 0 (lv_args 0 [.ref 3]) [] M 0 0 = some r) : r.1 = some (.int ((ma_100_3 N σ).1)) ∧ qa_O r.2 ∧ qa_s r.2 = (ma_100_3 N σ).2 := by
  obtain ⟨lv, el⟩ : ∃ l, l = lv_args 0 [.ref 3] := ⟨_, rfl⟩
  have g0 : q4_get lv 0 = some (.ref 3) := by rw [el]; rfl
  rw [← el] at h
  clear el
  replace h := qa_aload (n := 0) (q := 1) (qa_e rfl h) rfl g0
  obtain ⟨m1, em1⟩ : ∃ x, x = (ma_46_3 N σ) := ⟨_, rfl⟩
  obtain ⟨M, h, hM, es⟩ := qa_c0 (y := 46) (as := [.ref 3]) (rest := []) (i := .invokevirtual 46) (q := 4) (qa_e rfl h) (Or.inl rfl) rfl rfl (by decide) rfl (fun r hc => mb_46_3 hN hM es hc)
  rw [← em1] at es
  replace h := qa_push (z := (0 : Int32)) (q := 5) (qa_e rfl h) rfl (by decide)
  obtain ⟨lv, h, g, T⟩ := qa_istore (n := 1) (q := 6) (qa_e rfl h) rfl
  replace g0 := T _ _ g0 (by decide) (Or.inr rfl)
  have g1 := g
  clear g T
  replace h := qa_push (z := (0 : Int32)) (q := 7) (qa_e rfl h) rfl (by decide)
  obtain ⟨lv, h, g, T⟩ := qa_istore (n := 2) (q := 8) (qa_e rfl h) rfl
  replace g0 := T _ _ g0 (by decide) (Or.inr rfl)
  replace g1 := T _ _ g1 (by decide) (Or.inr rfl)
  have g2 := g
  clear g T
  obtain ⟨r2, er2⟩ : ∃ x, x = (qa_wh (fun s => s) (mc_100_3_p8 N) N ((0 : Int32), (0 : Int32), m1)) := ⟨_, rfl⟩
  have L := md_100_3_p8 (F := f) (N := N) (r := r) hN f N hN (Nat.le_refl f) ((0 : Int32), (0 : Int32), m1) _ _ hM es g0 g1 g2 h
  rw [← er2] at L
  obtain ⟨lv, M, h, hM, es, g1⟩ := L
  replace h := qa_iload (n := 1) (q := 67) (qa_e rfl h) rfl g1
  have er := qa_ri (qa_e rfl h)
  subst er
  have e0 : ma_100_3 N σ = (r2.2.1, r2.2.2) := by exact Eq.trans (qa_ie em1) (Eq.trans (qa_ie er2) (rfl))
  rw [e0]
  exact ⟨rfl, hM, es⟩
noncomputable def mc_102_3_p130 (N : Nat) (l3 : Int32) (l5 : Int32) (l6 : Int32) (σ : qa_S) (s : Int32) : (Int32) ⊕ ((Int32) ⊕ (Int32)) :=
  if (99 : Int32) < s then
    .inr (.inr s)
  else
    if (l3 * l6) < (s * l5) then
      .inr (.inl s)
    else
      .inl (s + (1 : Int32))
theorem md_102_3_p130 {N F : Nat} {r : Option Value × q4_M} {l3 : Int32} {l5 : Int32} {l6 : Int32} {σ : qa_S} (hN : F ≤ N) : ∀ f n, f ≤ n → f ≤ F → ∀ (s : Int32) (lv : List (Nat × Value)) (M : q4_M), qa_O M → qa_s M = σ → q4_get lv 3 = some (.int (l3)) → q4_get lv 5 = some (.int (l5)) → q4_get lv 6 = some (.int (l6)) → q4_get lv 7 = some (.int (s)) → q4_run f 102 130 lv [] M 0 0 = some r → (∀ b, (qa_wh (fun s => .inr s) (mc_102_3_p130 N l3 l5 l6 σ) n s) = .inl b → r.1 = some (.int (b)) ∧ qa_O r.2 ∧ qa_s r.2 = σ) ∧ (∀ b, (qa_wh (fun s => .inr s) (mc_102_3_p130 N l3 l5 l6 σ) n s) = .inr b → ∃ lv M, q4_run F 102 158 lv [] M 0 0 = some r ∧ qa_O M ∧ qa_s M = σ) := by
  intro f
  induction f with
  | zero => intro n _ _ s lv M hM es _ _ _ _ h; cases h
  | succ f ih =>
    intro n hn hF s lv M hM es g3 g5 g6 g7 h
    obtain ⟨n, rfl⟩ : ∃ n1, n = n1 + 1 := ⟨n - 1, by omega⟩
    replace hn : f ≤ n := Nat.le_of_succ_le_succ hn
    have hN := Nat.le_trans (Nat.le_of_succ_le hF) hN
    replace h := qa_iload (n := 7) (q := 132) (qa_d rfl h) rfl g7
    replace h := qa_push (z := (99 : Int32)) (q := 134) (qa_e rfl h) rfl (by decide)
    by_cases c1 : (99 : Int32) < s
    · replace h := qa_ift (q := 158) (qa_e rfl h) rfl (qa_T_gt c1)
      have e0 : mc_102_3_p130 N l3 l5 l6 σ s = .inr (.inr s) := by exact Eq.trans (if_pos c1) (rfl)
      rw [qa_whr e0]
      exact ⟨fun b hb => (nomatch hb), fun b hb => (by have e := Sum.inr.inj hb; subst e; exact ⟨_, _, q61_mono f F _ _ _ _ _ _ _ _ (Nat.le_of_succ_le hF) h, hM, es⟩)⟩
    · replace h := qa_iff (q := 137) (qa_e rfl h) rfl (qa_F_gt c1)
      replace h := qa_iload (n := 7) (q := 139) (qa_e rfl h) rfl g7
      replace h := qa_iload (n := 5) (q := 141) (qa_e rfl h) rfl g5
      replace h := qa_imul (q := 142) (qa_e rfl h) rfl
      replace h := qa_iload (n := 3) (q := 143) (qa_e rfl h) rfl g3
      replace h := qa_iload (n := 6) (q := 145) (qa_e rfl h) rfl g6
      replace h := qa_imul (q := 146) (qa_e rfl h) rfl
      by_cases c2 : (l3 * l6) < (s * l5)
      · replace h := qa_iff (q := 149) (qa_e rfl h) rfl (qa_F_le c2)
        replace h := qa_iload (n := 7) (q := 151) (qa_e rfl h) rfl g7
        have er := qa_ri (qa_e rfl h)
        subst er
        have e0 : mc_102_3_p130 N l3 l5 l6 σ s = .inr (.inl s) := by exact Eq.trans (if_neg c1) (Eq.trans (if_pos c2) (rfl))
        rw [qa_whr e0]
        exact ⟨fun b hb => (by have e := Sum.inl.inj hb; subst e; exact ⟨rfl, hM, es⟩), fun b hb => nomatch hb⟩
      · replace h := qa_ift (q := 152) (qa_e rfl h) rfl (qa_T_le c2)
        obtain ⟨lv, h, g, T⟩ := qa_iinc (n := 7) (z := (1 : Int32)) (q := 155) (qa_e rfl h) rfl (by decide) g7
        replace g3 := T _ _ g3 (by decide) (Or.inr rfl)
        replace g5 := T _ _ g5 (by decide) (Or.inr rfl)
        replace g6 := T _ _ g6 (by decide) (Or.inr rfl)
        replace g7 := g
        clear g T
        replace h := qa_goto (q := 130) (qa_e rfl h) rfl
        have e0 : mc_102_3_p130 N l3 l5 l6 σ s = .inl (s + (1 : Int32)) := by exact Eq.trans (if_neg c1) (Eq.trans (if_neg c2) (rfl))
        rw [qa_whl e0]
        exact ih n hn (Nat.le_of_succ_le hF) (s + (1 : Int32)) _ _ hM es g3 g5 g6 g7 h
/-- BuriedBySevens, guess, (IIII)I -/
noncomputable def ma_102_3 (N : Nat) (a1 : Int32) (a2 : Int32) (a3 : Int32) (a4 : Int32) (σ : qa_S) : Int32 × qa_S :=
  if (ma_22_4 a1 σ) = (0 : Int32) then
    qa_in ((ma_9_3 (-1 : Int32) σ)) fun r2 =>
    (r2.1, r2.2)
  else
    if a2 < (1 : Int32) then
      qa_in ((ma_9_3 (-4 : Int32) σ)) fun r4 =>
      (r4.1, r4.2)
    else
      if a3 < (0 : Int32) then
        qa_in ((ma_9_3 (-4 : Int32) σ)) fun r6 =>
        (r6.1, r6.2)
      else
        if (99 : Int32) < a2 then
          qa_in ((ma_9_3 (-6 : Int32) σ)) fun r8 =>
          (r8.1, r8.2)
        else
          if (99 : Int32) < a3 then
            qa_in ((ma_9_3 (-6 : Int32) σ)) fun r10 =>
            (r10.1, r10.2)
          else
            if (ma_57 a4) = (0 : Int32) then
              qa_in ((ma_9_3 (-2 : Int32) σ)) fun r12 =>
              (r12.1, r12.2)
            else
              qa_in ((ma_65_3 N (ma_60_3 σ) σ)) fun m13 =>
              qa_in ((ma_72_3 N m13)) fun m14 =>
              qa_in ((ma_82_73_80 N a1 m14)) fun r15 =>
              qa_in ((ma_72_3 N m14)) fun m16 =>
              qa_in ((ma_75_73_80 N m16)) fun r17 =>
              if a4 = (0 : Int32) then
                ((if (a3 * (r17 - r15)) < (a2 * r15) then (1 : Int32) else (0 : Int32)), m16)
              else
                qa_in ((qa_wh (fun s => .inr s) (mc_102_3_p130 N a3 r15 (r17 - r15) m16) N (1 : Int32))) fun r20 =>
                qa_cs r20
                  (fun b21 =>
                    (b21, m16))
                  (fun b21 =>
                    ((-9 : Int32), m16))
theorem mb_102_3 {f N : Nat} (hN : f ≤ N) {M : q4_M} {r : Option Value × q4_M} {σ : qa_S} {a1 : Int32} {a2 : Int32} {a3 : Int32} {a4 : Int32} (hM : qa_O M) (es : qa_s M = σ) (h : q4_run f 102 0 (lv_args 0 [.ref 3, .int (a1), .int (a2), .int (a3), .int (a4)]) [] M 0 0 = some r) : r.1 = some (.int ((ma_102_3 N a1 a2 a3 a4 σ).1)) ∧ qa_O r.2 ∧ qa_s r.2 = (ma_102_3 N a1 a2 a3 a4 σ).2 := by
  obtain ⟨lv, el⟩ : ∃ l, l = lv_args 0 [.ref 3, .int (a1), .int (a2), .int (a3), .int (a4)] := ⟨_, rfl⟩
  have g0 : q4_get lv 0 = some (.ref 3) := by rw [el]; rfl
  have g1 : q4_get lv 1 = some (.int (a1)) := by rw [el]; rfl
  have g2 : q4_get lv 2 = some (.int (a2)) := by rw [el]; rfl
  have g3 : q4_get lv 3 = some (.int (a3)) := by rw [el]; rfl
  have g4 : q4_get lv 4 = some (.int (a4)) := by rw [el]; rfl
  rw [← el] at h
  clear el
  replace h := qa_aload (n := 0) (q := 1) (qa_e rfl h) rfl g0
  replace h := qa_gr (b := 4) (j := 0) (q := 4) (qa_e rfl h) rfl hM rfl (by decide)
  replace h := qa_iload (n := 1) (q := 5) (qa_e rfl h) rfl g1
  obtain ⟨M, h, hM, es⟩ := qa_c1 (y := 22) (as := [.ref 4, .int (a1)]) (rest := []) (i := .invokevirtual 22) (q := 8) (qa_e rfl h) (Or.inl rfl) rfl rfl (by decide) rfl (fun r hc => mb_22_4 hM es hc)
  by_cases c1 : (ma_22_4 a1 σ) = (0 : Int32)
  · replace h := qa_icf (q := 11) (qa_e rfl h) rfl (qa_F_ne c1)
    replace h := qa_aload (n := 0) (q := 12) (qa_e rfl h) rfl g0
    replace h := qa_push (z := (-1 : Int32)) (q := 13) (qa_e rfl h) rfl (by decide)
    obtain ⟨r2, er2⟩ : ∃ x, x = (ma_9_3 (-1 : Int32) σ) := ⟨_, rfl⟩
    obtain ⟨M, h, hM, es⟩ := qa_c1 (y := 9) (as := [.ref 3, .int ((-1 : Int32))]) (rest := []) (i := .invokevirtual 9) (q := 16) (qa_e rfl h) (Or.inl rfl) rfl rfl (by decide) rfl (fun r hc => mb_9_3 hM es hc)
    rw [← er2] at h es
    have er := qa_ri (qa_e rfl h)
    subst er
    have e0 : ma_102_3 N a1 a2 a3 a4 σ = (r2.1, r2.2) := by exact Eq.trans (if_pos c1) (Eq.trans (qa_ie er2) (rfl))
    rw [e0]
    exact ⟨rfl, hM, es⟩
  · replace h := qa_ict (q := 17) (qa_e rfl h) rfl (qa_T_ne c1)
    replace h := qa_iload (n := 2) (q := 18) (qa_e rfl h) rfl g2
    replace h := qa_push (z := (1 : Int32)) (q := 19) (qa_e rfl h) rfl (by decide)
    by_cases c3 : a2 < (1 : Int32)
    · replace h := qa_ift (q := 26) (qa_e rfl h) rfl (qa_T_lt c3)
      replace h := qa_aload (n := 0) (q := 27) (qa_e rfl h) rfl g0
      replace h := qa_push (z := (-4 : Int32)) (q := 29) (qa_e rfl h) rfl (by decide)
      obtain ⟨r4, er4⟩ : ∃ x, x = (ma_9_3 (-4 : Int32) σ) := ⟨_, rfl⟩
      obtain ⟨M, h, hM, es⟩ := qa_c1 (y := 9) (as := [.ref 3, .int ((-4 : Int32))]) (rest := []) (i := .invokevirtual 9) (q := 32) (qa_e rfl h) (Or.inl rfl) rfl rfl (by decide) rfl (fun r hc => mb_9_3 hM es hc)
      rw [← er4] at h es
      have er := qa_ri (qa_e rfl h)
      subst er
      have e0 : ma_102_3 N a1 a2 a3 a4 σ = (r4.1, r4.2) := by exact Eq.trans (if_neg c1) (Eq.trans (if_pos c3) (Eq.trans (qa_ie er4) (rfl)))
      rw [e0]
      exact ⟨rfl, hM, es⟩
    · replace h := qa_iff (q := 22) (qa_e rfl h) rfl (qa_F_lt c3)
      replace h := qa_iload (n := 3) (q := 23) (qa_e rfl h) rfl g3
      by_cases c5 : a3 < (0 : Int32)
      · replace h := qa_icf (q := 26) (qa_e rfl h) rfl (qa_F_ge c5)
        replace h := qa_aload (n := 0) (q := 27) (qa_e rfl h) rfl g0
        replace h := qa_push (z := (-4 : Int32)) (q := 29) (qa_e rfl h) rfl (by decide)
        obtain ⟨r6, er6⟩ : ∃ x, x = (ma_9_3 (-4 : Int32) σ) := ⟨_, rfl⟩
        obtain ⟨M, h, hM, es⟩ := qa_c1 (y := 9) (as := [.ref 3, .int ((-4 : Int32))]) (rest := []) (i := .invokevirtual 9) (q := 32) (qa_e rfl h) (Or.inl rfl) rfl rfl (by decide) rfl (fun r hc => mb_9_3 hM es hc)
        rw [← er6] at h es
        have er := qa_ri (qa_e rfl h)
        subst er
        have e0 : ma_102_3 N a1 a2 a3 a4 σ = (r6.1, r6.2) := by exact Eq.trans (if_neg c1) (Eq.trans (if_neg c3) (Eq.trans (if_pos c5) (Eq.trans (qa_ie er6) (rfl))))
        rw [e0]
        exact ⟨rfl, hM, es⟩
      · replace h := qa_ict (q := 33) (qa_e rfl h) rfl (qa_T_ge c5)
        replace h := qa_iload (n := 2) (q := 34) (qa_e rfl h) rfl g2
        replace h := qa_push (z := (99 : Int32)) (q := 36) (qa_e rfl h) rfl (by decide)
        by_cases c7 : (99 : Int32) < a2
        · replace h := qa_ift (q := 45) (qa_e rfl h) rfl (qa_T_gt c7)
          replace h := qa_aload (n := 0) (q := 46) (qa_e rfl h) rfl g0
          replace h := qa_push (z := (-6 : Int32)) (q := 48) (qa_e rfl h) rfl (by decide)
          obtain ⟨r8, er8⟩ : ∃ x, x = (ma_9_3 (-6 : Int32) σ) := ⟨_, rfl⟩
          obtain ⟨M, h, hM, es⟩ := qa_c1 (y := 9) (as := [.ref 3, .int ((-6 : Int32))]) (rest := []) (i := .invokevirtual 9) (q := 51) (qa_e rfl h) (Or.inl rfl) rfl rfl (by decide) rfl (fun r hc => mb_9_3 hM es hc)
          rw [← er8] at h es
          have er := qa_ri (qa_e rfl h)
          subst er
          have e0 : ma_102_3 N a1 a2 a3 a4 σ = (r8.1, r8.2) := by exact Eq.trans (if_neg c1) (Eq.trans (if_neg c3) (Eq.trans (if_neg c5) (Eq.trans (if_pos c7) (Eq.trans (qa_ie er8) (rfl)))))
          rw [e0]
          exact ⟨rfl, hM, es⟩
        · replace h := qa_iff (q := 39) (qa_e rfl h) rfl (qa_F_gt c7)
          replace h := qa_iload (n := 3) (q := 40) (qa_e rfl h) rfl g3
          replace h := qa_push (z := (99 : Int32)) (q := 42) (qa_e rfl h) rfl (by decide)
          by_cases c9 : (99 : Int32) < a3
          · replace h := qa_iff (q := 45) (qa_e rfl h) rfl (qa_F_le c9)
            replace h := qa_aload (n := 0) (q := 46) (qa_e rfl h) rfl g0
            replace h := qa_push (z := (-6 : Int32)) (q := 48) (qa_e rfl h) rfl (by decide)
            obtain ⟨r10, er10⟩ : ∃ x, x = (ma_9_3 (-6 : Int32) σ) := ⟨_, rfl⟩
            obtain ⟨M, h, hM, es⟩ := qa_c1 (y := 9) (as := [.ref 3, .int ((-6 : Int32))]) (rest := []) (i := .invokevirtual 9) (q := 51) (qa_e rfl h) (Or.inl rfl) rfl rfl (by decide) rfl (fun r hc => mb_9_3 hM es hc)
            rw [← er10] at h es
            have er := qa_ri (qa_e rfl h)
            subst er
            have e0 : ma_102_3 N a1 a2 a3 a4 σ = (r10.1, r10.2) := by exact Eq.trans (if_neg c1) (Eq.trans (if_neg c3) (Eq.trans (if_neg c5) (Eq.trans (if_neg c7) (Eq.trans (if_pos c9) (Eq.trans (qa_ie er10) (rfl))))))
            rw [e0]
            exact ⟨rfl, hM, es⟩
          · replace h := qa_ift (q := 52) (qa_e rfl h) rfl (qa_T_le c9)
            replace h := qa_iload (n := 4) (q := 54) (qa_e rfl h) rfl g4
            obtain ⟨M, h, hM, es⟩ := qa_c1 (y := 57) (as := [.int (a4)]) (rest := []) (i := .invokestatic 57) (q := 57) (qa_e rfl h) (Or.inr rfl) rfl rfl (by decide) rfl (fun r hc => mb_57 hM es hc)
            by_cases c11 : (ma_57 a4) = (0 : Int32)
            · replace h := qa_icf (q := 60) (qa_e rfl h) rfl (qa_F_ne c11)
              replace h := qa_aload (n := 0) (q := 61) (qa_e rfl h) rfl g0
              replace h := qa_push (z := (-2 : Int32)) (q := 63) (qa_e rfl h) rfl (by decide)
              obtain ⟨r12, er12⟩ : ∃ x, x = (ma_9_3 (-2 : Int32) σ) := ⟨_, rfl⟩
              obtain ⟨M, h, hM, es⟩ := qa_c1 (y := 9) (as := [.ref 3, .int ((-2 : Int32))]) (rest := []) (i := .invokevirtual 9) (q := 66) (qa_e rfl h) (Or.inl rfl) rfl rfl (by decide) rfl (fun r hc => mb_9_3 hM es hc)
              rw [← er12] at h es
              have er := qa_ri (qa_e rfl h)
              subst er
              have e0 : ma_102_3 N a1 a2 a3 a4 σ = (r12.1, r12.2) := by exact Eq.trans (if_neg c1) (Eq.trans (if_neg c3) (Eq.trans (if_neg c5) (Eq.trans (if_neg c7) (Eq.trans (if_neg c9) (Eq.trans (if_pos c11) (Eq.trans (qa_ie er12) (rfl)))))))
              rw [e0]
              exact ⟨rfl, hM, es⟩
            · replace h := qa_ict (q := 67) (qa_e rfl h) rfl (qa_T_ne c11)
              replace h := qa_aload (n := 0) (q := 68) (qa_e rfl h) rfl g0
              replace h := qa_aload (n := 0) (q := 69) (qa_e rfl h) rfl g0
              obtain ⟨M, h, hM, es⟩ := qa_c1 (y := 60) (as := [.ref 3]) (rest := [.ref 3]) (i := .invokevirtual 60) (q := 72) (qa_e rfl h) (Or.inl rfl) rfl rfl (by decide) rfl (fun r hc => mb_60_3 hM es hc)
              obtain ⟨m13, em13⟩ : ∃ x, x = (ma_65_3 N (ma_60_3 σ) σ) := ⟨_, rfl⟩
              obtain ⟨M, h, hM, es⟩ := qa_c0 (y := 65) (as := [.ref 3, .int ((ma_60_3 σ))]) (rest := []) (i := .invokevirtual 65) (q := 75) (qa_e rfl h) (Or.inl rfl) rfl rfl (by decide) rfl (fun r hc => mb_65_3 hN hM es hc)
              rw [← em13] at es
              replace h := qa_aload (n := 0) (q := 76) (qa_e rfl h) rfl g0
              obtain ⟨m14, em14⟩ : ∃ x, x = (ma_72_3 N m13) := ⟨_, rfl⟩
              obtain ⟨M, h, hM, es⟩ := qa_c1 (y := 72) (as := [.ref 3]) (rest := []) (i := .invokevirtual 72) (q := 79) (qa_e rfl h) (Or.inl rfl) rfl rfl (by decide) rfl (fun r hc => mb_72_3 hN hM es hc)
              rw [← em14] at es
              replace h := qa_aload (n := 0) (q := 80) (qa_e rfl h) rfl g0
              replace h := qa_gr (b := 80) (j := 4) (q := 83) (qa_e rfl h) rfl hM rfl (by decide)
              replace h := qa_iload (n := 1) (q := 84) (qa_e rfl h) rfl g1
              obtain ⟨r15, er15⟩ : ∃ x, x = (ma_82_73_80 N a1 m14) := ⟨_, rfl⟩
              obtain ⟨M, h, hM, es⟩ := qa_c1 (y := 82) (as := [.ref 73, .ref 80, .int (a1)]) (rest := []) (i := .invokevirtual 82) (q := 87) (qa_e rfl h) (Or.inl rfl) rfl rfl (by decide) rfl (fun r hc => mb_82_73_80 hN hM es hc)
              rw [← er15] at h
              obtain ⟨lv, h, g, T⟩ := qa_istore (n := 5) (q := 89) (qa_e rfl h) rfl
              replace g0 := T _ _ g0 (by decide) (Or.inr rfl)
              replace g2 := T _ _ g2 (by decide) (Or.inr rfl)
              replace g3 := T _ _ g3 (by decide) (Or.inr rfl)
              replace g4 := T _ _ g4 (by decide) (Or.inr rfl)
              have g5 := g
              clear g T
              replace h := qa_aload (n := 0) (q := 90) (qa_e rfl h) rfl g0
              obtain ⟨m16, em16⟩ : ∃ x, x = (ma_72_3 N m14) := ⟨_, rfl⟩
              obtain ⟨M, h, hM, es⟩ := qa_c1 (y := 72) (as := [.ref 3]) (rest := []) (i := .invokevirtual 72) (q := 93) (qa_e rfl h) (Or.inl rfl) rfl rfl (by decide) rfl (fun r hc => mb_72_3 hN hM es hc)
              rw [← em16] at es
              replace h := qa_aload (n := 0) (q := 94) (qa_e rfl h) rfl g0
              replace h := qa_gr (b := 80) (j := 4) (q := 97) (qa_e rfl h) rfl hM rfl (by decide)
              obtain ⟨r17, er17⟩ : ∃ x, x = (ma_75_73_80 N m16) := ⟨_, rfl⟩
              obtain ⟨M, h, hM, es⟩ := qa_c1 (y := 75) (as := [.ref 73, .ref 80]) (rest := []) (i := .invokevirtual 75) (q := 100) (qa_e rfl h) (Or.inl rfl) rfl rfl (by decide) rfl (fun r hc => mb_75_73_80 hN hM es hc)
              rw [← er17] at h
              replace h := qa_iload (n := 5) (q := 102) (qa_e rfl h) rfl g5
              replace h := qa_isub (q := 103) (qa_e rfl h) rfl
              obtain ⟨lv, h, g, T⟩ := qa_istore (n := 6) (q := 105) (qa_e rfl h) rfl
              replace g2 := T _ _ g2 (by decide) (Or.inr rfl)
              replace g3 := T _ _ g3 (by decide) (Or.inr rfl)
              replace g4 := T _ _ g4 (by decide) (Or.inr rfl)
              replace g5 := T _ _ g5 (by decide) (Or.inr rfl)
              have g6 := g
              clear g T
              replace h := qa_iload (n := 4) (q := 107) (qa_e rfl h) rfl g4
              by_cases c18 : a4 = (0 : Int32)
              · replace h := qa_icf (q := 110) (qa_e rfl h) rfl (qa_F_ne c18)
                replace h := qa_iload (n := 2) (q := 111) (qa_e rfl h) rfl g2
                replace h := qa_iload (n := 5) (q := 113) (qa_e rfl h) rfl g5
                replace h := qa_imul (q := 114) (qa_e rfl h) rfl
                replace h := qa_iload (n := 3) (q := 115) (qa_e rfl h) rfl g3
                replace h := qa_iload (n := 6) (q := 117) (qa_e rfl h) rfl g6
                replace h := qa_imul (q := 118) (qa_e rfl h) rfl
                obtain ⟨lv, M, h, hM, es⟩ : ∃ lv M, q4_run f 102 126 lv [.int ((if (a3 * (r17 - r15)) < (a2 * r15) then (1 : Int32) else (0 : Int32)))] M 0 0 = some r ∧ qa_O M ∧ qa_s M = m16 := by
                  by_cases c19 : (a3 * (r17 - r15)) < (a2 * r15)
                  · replace h := qa_iff (q := 121) (qa_e rfl h) rfl (qa_F_le c19)
                    replace h := qa_push (z := (1 : Int32)) (q := 122) (qa_e rfl h) rfl (by decide)
                    replace h := qa_goto (q := 126) (qa_e rfl h) rfl
                    exact ⟨lv, M, (qa_hi1 c19 h), hM, es⟩
                  · replace h := qa_ift (q := 125) (qa_e rfl h) rfl (qa_T_le c19)
                    replace h := qa_push (z := (0 : Int32)) (q := 126) (qa_e rfl h) rfl (by decide)
                    exact ⟨lv, M, (qa_hi0 c19 h), hM, es⟩
                have er := qa_ri (qa_e rfl h)
                subst er
                have e0 : ma_102_3 N a1 a2 a3 a4 σ = ((if (a3 * (r17 - r15)) < (a2 * r15) then (1 : Int32) else (0 : Int32)), m16) := by exact Eq.trans (if_neg c1) (Eq.trans (if_neg c3) (Eq.trans (if_neg c5) (Eq.trans (if_neg c7) (Eq.trans (if_neg c9) (Eq.trans (if_neg c11) (Eq.trans (qa_ie em13) (Eq.trans (qa_ie em14) (Eq.trans (qa_ie er15) (Eq.trans (qa_ie em16) (Eq.trans (qa_ie er17) (Eq.trans (if_pos c18) (rfl))))))))))))
                rw [e0]
                exact ⟨rfl, hM, es⟩
              · replace h := qa_ict (q := 127) (qa_e rfl h) rfl (qa_T_ne c18)
                replace h := qa_push (z := (1 : Int32)) (q := 128) (qa_e rfl h) rfl (by decide)
                obtain ⟨lv, h, g, T⟩ := qa_istore (n := 7) (q := 130) (qa_e rfl h) rfl
                replace g3 := T _ _ g3 (by decide) (Or.inr rfl)
                replace g5 := T _ _ g5 (by decide) (Or.inr rfl)
                replace g6 := T _ _ g6 (by decide) (Or.inr rfl)
                have g7 := g
                clear g T
                obtain ⟨r20, er20⟩ : ∃ x, x = (qa_wh (fun s => .inr s) (mc_102_3_p130 N a3 r15 (r17 - r15) m16) N (1 : Int32)) := ⟨_, rfl⟩
                have L := md_102_3_p130 (l3 := a3) (l5 := r15) (l6 := (r17 - r15)) (σ := m16) (F := f) (N := N) (r := r) hN f N hN (Nat.le_refl f) (1 : Int32) _ _ hM es g3 g5 g6 g7 h
                rw [← er20] at L
                rcases qr20 : r20 with b21 | b21
                · obtain ⟨h, hM, es⟩ := L.1 b21 qr20
                  have e0 : ma_102_3 N a1 a2 a3 a4 σ = (b21, m16) := by exact Eq.trans (if_neg c1) (Eq.trans (if_neg c3) (Eq.trans (if_neg c5) (Eq.trans (if_neg c7) (Eq.trans (if_neg c9) (Eq.trans (if_neg c11) (Eq.trans (qa_ie em13) (Eq.trans (qa_ie em14) (Eq.trans (qa_ie er15) (Eq.trans (qa_ie em16) (Eq.trans (qa_ie er17) (Eq.trans (if_neg c18) (Eq.trans (qa_ie er20) (Eq.trans (qa_csl qr20 _ _) (rfl))))))))))))))
                  rw [e0]
                  exact ⟨h, hM, es⟩
                · obtain ⟨lv, M, h, hM, es⟩ := L.2 b21 qr20
                  replace h := qa_push (z := (-9 : Int32)) (q := 160) (qa_e rfl h) rfl (by decide)
                  have er := qa_ri (qa_e rfl h)
                  subst er
                  have e0 : ma_102_3 N a1 a2 a3 a4 σ = ((-9 : Int32), m16) := by exact Eq.trans (if_neg c1) (Eq.trans (if_neg c3) (Eq.trans (if_neg c5) (Eq.trans (if_neg c7) (Eq.trans (if_neg c9) (Eq.trans (if_neg c11) (Eq.trans (qa_ie em13) (Eq.trans (qa_ie em14) (Eq.trans (qa_ie er15) (Eq.trans (qa_ie em16) (Eq.trans (qa_ie er17) (Eq.trans (if_neg c18) (Eq.trans (qa_ie er20) (Eq.trans (qa_csr qr20 _ _) (rfl))))))))))))))
                  rw [e0]
                  exact ⟨rfl, hM, es⟩
noncomputable def mc_104_3_p4 (N : Nat) (σ : qa_S) (s : Int32 × Int32) : (Int32 × Int32) ⊕ (Int32 × Int32) :=
  if s.1 < (σ 4 0) then
    .inl ((s.1 + (1 : Int32)), (if (0 : Int32) < (σ 7 s.1.toNatClampNeg) then (s.2 ||| ((1 : Int32) <<< (s.1 &&& 31))) else s.2))
  else
    .inr (s.1, s.2)
theorem md_104_3_p4 {N F : Nat} {r : Option Value × q4_M} {σ : qa_S} (hN : F ≤ N) : ∀ f n, f ≤ n → f ≤ F → ∀ (s : Int32 × Int32) (lv : List (Nat × Value)) (M : q4_M), qa_O M → qa_s M = σ → q4_get lv 0 = some (.ref 3) → q4_get lv 1 = some (.int (s.2)) → q4_get lv 2 = some (.int (s.1)) → q4_run f 104 4 lv [] M 0 0 = some r → ∃ lv M, q4_run F 104 39 lv [] M 0 0 = some r ∧ qa_O M ∧ qa_s M = σ ∧ q4_get lv 1 = some (.int ((qa_wh (fun s => s) (mc_104_3_p4 N σ) n s).2)) := by
  intro f
  induction f with
  | zero => intro n _ _ s lv M hM es _ _ _ h; cases h
  | succ f ih =>
    intro n hn hF s lv M hM es g0 g1 g2 h
    obtain ⟨n, rfl⟩ : ∃ n1, n = n1 + 1 := ⟨n - 1, by omega⟩
    replace hn : f ≤ n := Nat.le_of_succ_le_succ hn
    have hN := Nat.le_trans (Nat.le_of_succ_le hF) hN
    replace h := qa_iload (n := 2) (q := 5) (qa_d rfl h) rfl g2
    replace h := qa_aload (n := 0) (q := 6) (qa_e rfl h) rfl g0
    replace h := qa_gr (b := 4) (j := 0) (q := 9) (qa_e rfl h) rfl hM rfl (by decide)
    replace h := qa_gi (j := 0) (q := 12) (qa_e rfl h) rfl hM es rfl (by decide)
    by_cases c1 : s.1 < (σ 4 0)
    · replace h := qa_iff (q := 15) (qa_e rfl h) rfl (qa_F_ge c1)
      replace h := qa_aload (n := 0) (q := 16) (qa_e rfl h) rfl g0
      replace h := qa_gr (b := 4) (j := 0) (q := 19) (qa_e rfl h) rfl hM rfl (by decide)
      replace h := qa_gr (b := 7) (j := 4) (q := 22) (qa_e rfl h) rfl hM rfl (by decide)
      replace h := qa_iload (n := 2) (q := 23) (qa_e rfl h) rfl g2
      replace h := qa_iaload (jn := s.1.toNatClampNeg) (q := 24) (qa_e rfl h) rfl hM es rfl
      obtain ⟨lv, M, h, hM, es, g0, g1, g2⟩ : ∃ lv M, q4_run f 104 33 lv [] M 0 0 = some r ∧ qa_O M ∧ qa_s M = σ ∧ q4_get lv 0 = some (.ref 3) ∧ q4_get lv 1 = some (.int ((if (0 : Int32) < (σ 7 s.1.toNatClampNeg) then (s.2 ||| ((1 : Int32) <<< (s.1 &&& 31))) else s.2))) ∧ q4_get lv 2 = some (.int (s.1)) := by
        by_cases c2 : (0 : Int32) < (σ 7 s.1.toNatClampNeg)
        · replace h := qa_icf (q := 27) (qa_e rfl h) rfl (qa_F_le c2)
          replace h := qa_iload (n := 1) (q := 28) (qa_e rfl h) rfl g1
          replace h := qa_push (z := (1 : Int32)) (q := 29) (qa_e rfl h) rfl (by decide)
          replace h := qa_iload (n := 2) (q := 30) (qa_e rfl h) rfl g2
          replace h := qa_ishl (q := 31) (qa_e rfl h) rfl
          replace h := qa_ior (q := 32) (qa_e rfl h) rfl
          obtain ⟨lv, h, g, T⟩ := qa_istore (n := 1) (q := 33) (qa_e rfl h) rfl
          replace g0 := T _ _ g0 (by decide) (Or.inr rfl)
          replace g2 := T _ _ g2 (by decide) (Or.inr rfl)
          have g1 := g
          clear g T
          exact ⟨lv, M, h, hM, es, g0, (qa_gi1 c2 g1), g2⟩
        · replace h := qa_ict (q := 33) (qa_e rfl h) rfl (qa_T_le c2)
          exact ⟨lv, M, h, hM, es, g0, (qa_gi0 c2 g1), g2⟩
      obtain ⟨lv, h, g, T⟩ := qa_iinc (n := 2) (z := (1 : Int32)) (q := 36) (qa_e rfl h) rfl (by decide) g2
      replace g0 := T _ _ g0 (by decide) (Or.inr rfl)
      replace g1 := T _ _ g1 (by decide) (Or.inr rfl)
      replace g2 := g
      clear g T
      replace h := qa_goto (q := 4) (qa_e rfl h) rfl
      have e0 : mc_104_3_p4 N σ s = .inl ((s.1 + (1 : Int32)), (if (0 : Int32) < (σ 7 s.1.toNatClampNeg) then (s.2 ||| ((1 : Int32) <<< (s.1 &&& 31))) else s.2)) := by exact Eq.trans (if_pos c1) (rfl)
      rw [qa_whl e0]
      exact ih n hn (Nat.le_of_succ_le hF) ((s.1 + (1 : Int32)), (if (0 : Int32) < (σ 7 s.1.toNatClampNeg) then (s.2 ||| ((1 : Int32) <<< (s.1 &&& 31))) else s.2)) _ _ hM es g0 g1 g2 h
    · replace h := qa_ift (q := 39) (qa_e rfl h) rfl (qa_T_ge c1)
      have e0 : mc_104_3_p4 N σ s = .inr (s.1, s.2) := by exact Eq.trans (if_neg c1) (rfl)
      rw [qa_whr e0]
      exact ⟨_, _, q61_mono f F _ _ _ _ _ _ _ _ (Nat.le_of_succ_le hF) h, hM, es, g1⟩
/-- BuriedBySevens, casksWithShare, ()I -/
noncomputable def ma_104_3 (N : Nat) (σ : qa_S) : Int32 :=
  qa_in ((qa_wh (fun s => s) (mc_104_3_p4 N σ) N ((0 : Int32), (0 : Int32)))) fun r1 =>
  r1.2
theorem mb_104_3 {f N : Nat} (hN : f ≤ N) {M : q4_M} {r : Option Value × q4_M} {σ : qa_S} (hM : qa_O M) (es : qa_s M = σ) (h : q4_run f 104 0 (lv_args 0 [.ref 3]) [] M 0 0 = some r) : r.1 = some (.int ((ma_104_3 N σ))) ∧ qa_O r.2 ∧ qa_s r.2 = σ := by
  obtain ⟨lv, el⟩ : ∃ l, l = lv_args 0 [.ref 3] := ⟨_, rfl⟩
  have g0 : q4_get lv 0 = some (.ref 3) := by rw [el]; rfl
  rw [← el] at h
  clear el
  replace h := qa_push (z := (0 : Int32)) (q := 1) (qa_e rfl h) rfl (by decide)
  obtain ⟨lv, h, g, T⟩ := qa_istore (n := 1) (q := 2) (qa_e rfl h) rfl
  replace g0 := T _ _ g0 (by decide) (Or.inr rfl)
  have g1 := g
  clear g T
  replace h := qa_push (z := (0 : Int32)) (q := 3) (qa_e rfl h) rfl (by decide)
  obtain ⟨lv, h, g, T⟩ := qa_istore (n := 2) (q := 4) (qa_e rfl h) rfl
  replace g0 := T _ _ g0 (by decide) (Or.inr rfl)
  replace g1 := T _ _ g1 (by decide) (Or.inr rfl)
  have g2 := g
  clear g T
  obtain ⟨r1, er1⟩ : ∃ x, x = (qa_wh (fun s => s) (mc_104_3_p4 N σ) N ((0 : Int32), (0 : Int32))) := ⟨_, rfl⟩
  have L := md_104_3_p4 (σ := σ) (F := f) (N := N) (r := r) hN f N hN (Nat.le_refl f) ((0 : Int32), (0 : Int32)) _ _ hM es g0 g1 g2 h
  rw [← er1] at L
  obtain ⟨lv, M, h, hM, es, g1⟩ := L
  replace h := qa_iload (n := 1) (q := 40) (qa_e rfl h) rfl g1
  have er := qa_ri (qa_e rfl h)
  subst er
  have e0 : ma_104_3 N σ = r1.2 := by exact Eq.trans (qa_ie er1) (rfl)
  rw [e0]
  exact ⟨rfl, hM, es⟩
/-- BuriedBySevens, tellFromWater, (I)I -/
noncomputable def ma_105_3 (N : Nat) (a1 : Int32) (σ : qa_S) : Int32 × qa_S :=
  qa_in ((ma_47_4 N 7 a1 (0 : Int32) 95 σ)) fun m1 =>
  qa_in ((ma_99_3 N 95 96 m1)) fun r2 =>
  (r2, m1)
theorem mb_105_3 {f N : Nat} (hN : f ≤ N) {M : q4_M} {r : Option Value × q4_M} {σ : qa_S} {a1 : Int32} (hM : qa_O M) (es : qa_s M = σ) (h : q4_run f 105 0 (lv_args 0 [.ref 3, .int (a1)]) [] M 0 0 = some r) : r.1 = some (.int ((ma_105_3 N a1 σ).1)) ∧ qa_O r.2 ∧ qa_s r.2 = (ma_105_3 N a1 σ).2 := by
  obtain ⟨lv, el⟩ : ∃ l, l = lv_args 0 [.ref 3, .int (a1)] := ⟨_, rfl⟩
  have g0 : q4_get lv 0 = some (.ref 3) := by rw [el]; rfl
  have g1 : q4_get lv 1 = some (.int (a1)) := by rw [el]; rfl
  rw [← el] at h
  clear el
  replace h := qa_aload (n := 0) (q := 1) (qa_e rfl h) rfl g0
  replace h := qa_gr (b := 4) (j := 0) (q := 4) (qa_e rfl h) rfl hM rfl (by decide)
  replace h := qa_aload (n := 0) (q := 5) (qa_e rfl h) rfl g0
  replace h := qa_gr (b := 4) (j := 0) (q := 8) (qa_e rfl h) rfl hM rfl (by decide)
  replace h := qa_gr (b := 7) (j := 4) (q := 11) (qa_e rfl h) rfl hM rfl (by decide)
  replace h := qa_iload (n := 1) (q := 12) (qa_e rfl h) rfl g1
  replace h := qa_push (z := (0 : Int32)) (q := 13) (qa_e rfl h) rfl (by decide)
  replace h := qa_aload (n := 0) (q := 14) (qa_e rfl h) rfl g0
  replace h := qa_gr (b := 95) (j := 12) (q := 17) (qa_e rfl h) rfl hM rfl (by decide)
  obtain ⟨m1, em1⟩ : ∃ x, x = (ma_47_4 N 7 a1 (0 : Int32) 95 σ) := ⟨_, rfl⟩
  obtain ⟨M, h, hM, es⟩ := qa_c0 (y := 47) (as := [.ref 4, .ref 7, .int (a1), .int ((0 : Int32)), .ref 95]) (rest := []) (i := .invokevirtual 47) (q := 20) (qa_e rfl h) (Or.inl rfl) rfl rfl (by decide) rfl (fun r hc => mb_47_4 hN hM es hc)
  rw [← em1] at es
  replace h := qa_aload (n := 0) (q := 21) (qa_e rfl h) rfl g0
  replace h := qa_aload (n := 0) (q := 22) (qa_e rfl h) rfl g0
  replace h := qa_gr (b := 95) (j := 12) (q := 25) (qa_e rfl h) rfl hM rfl (by decide)
  replace h := qa_aload (n := 0) (q := 26) (qa_e rfl h) rfl g0
  replace h := qa_gr (b := 96) (j := 13) (q := 29) (qa_e rfl h) rfl hM rfl (by decide)
  obtain ⟨r2, er2⟩ : ∃ x, x = (ma_99_3 N 95 96 m1) := ⟨_, rfl⟩
  obtain ⟨M, h, hM, es⟩ := qa_c1 (y := 99) (as := [.ref 3, .ref 95, .ref 96]) (rest := []) (i := .invokevirtual 99) (q := 32) (qa_e rfl h) (Or.inl rfl) rfl rfl (by decide) rfl (fun r hc => mb_99_3 hN hM es hc)
  rw [← er2] at h
  have er := qa_ri (qa_e rfl h)
  subst er
  have e0 : ma_105_3 N a1 σ = (r2, m1) := by exact Eq.trans (qa_ie em1) (Eq.trans (qa_ie er2) (rfl))
  rw [e0]
  exact ⟨rfl, hM, es⟩
noncomputable def mc_103_3_p73 (N : Nat) (l1 : Int32) (l2 : Int32) (l3 : Int32) (l4 : Int32) (s : Int32 × Int64 × qa_S) : (Int32 × Int64 × qa_S) ⊕ (Int32 × Int64 × qa_S) :=
  if s.1 < ((1 : Int32) <<< ((s.2.2 4 0) &&& 31)) then
    qa_in ((ma_105_3 N (s.1 ||| ((1 : Int32) <<< (l1 &&& 31))) s.2.2)) fun r3 =>
    qa_in ((ma_105_3 N s.1 r3.2)) fun r4 =>
    qa_in ((if (s.1 &&& (l3 ^^^ (-1 : Int32))) = (0 : Int32) then r4.2 else s.2.2)) fun m5 =>
    .inl ((s.1 + (1 : Int32)), (if (s.1 &&& (l3 ^^^ (-1 : Int32))) = (0 : Int32) then (s.2.1 + ((((s.2.2 2 (ma_63 s.1).toNatClampNeg)).toInt64 * ((s.2.2 2 (l4 - (ma_63 s.1)).toNatClampNeg)).toInt64) * ((r3.1 - r4.1)).toInt64)) else s.2.1), m5)
  else
    .inr (s.1, s.2.1, s.2.2)
theorem md_103_3_p73 {N F : Nat} {r : Option Value × q4_M} {l1 : Int32} {l2 : Int32} {l3 : Int32} {l4 : Int32} (hN : F ≤ N) : ∀ f n, f ≤ n → f ≤ F → ∀ (s : Int32 × Int64 × qa_S) (lv : List (Nat × Value)) (M : q4_M), qa_O M → qa_s M = s.2.2 → q4_get lv 0 = some (.ref 3) → q4_get lv 1 = some (.int (l1)) → q4_get lv 2 = some (.int (l2)) → q4_get lv 3 = some (.int (l3)) → q4_get lv 4 = some (.int (l4)) → q4_get lv 5 = some (.long (s.2.1)) → q4_get lv 7 = some (.int (s.1)) → q4_run f 103 73 lv [] M 0 0 = some r → ∃ lv M, q4_run F 103 158 lv [] M 0 0 = some r ∧ qa_O M ∧ qa_s M = (qa_wh (fun s => s) (mc_103_3_p73 N l1 l2 l3 l4) n s).2.2 ∧ q4_get lv 2 = some (.int (l2)) ∧ q4_get lv 4 = some (.int (l4)) ∧ q4_get lv 5 = some (.long ((qa_wh (fun s => s) (mc_103_3_p73 N l1 l2 l3 l4) n s).2.1)) := by
  intro f
  induction f with
  | zero => intro n _ _ s lv M hM es _ _ _ _ _ _ _ h; cases h
  | succ f ih =>
    intro n hn hF s lv M hM es g0 g1 g2 g3 g4 g5 g7 h
    obtain ⟨n, rfl⟩ : ∃ n1, n = n1 + 1 := ⟨n - 1, by omega⟩
    replace hn : f ≤ n := Nat.le_of_succ_le_succ hn
    have hN := Nat.le_trans (Nat.le_of_succ_le hF) hN
    replace h := qa_iload (n := 7) (q := 75) (qa_d rfl h) rfl g7
    replace h := qa_push (z := (1 : Int32)) (q := 76) (qa_e rfl h) rfl (by decide)
    replace h := qa_aload (n := 0) (q := 77) (qa_e rfl h) rfl g0
    replace h := qa_gr (b := 4) (j := 0) (q := 80) (qa_e rfl h) rfl hM rfl (by decide)
    replace h := qa_gi (j := 0) (q := 83) (qa_e rfl h) rfl hM es rfl (by decide)
    replace h := qa_ishl (q := 84) (qa_e rfl h) rfl
    by_cases c1 : s.1 < ((1 : Int32) <<< ((s.2.2 4 0) &&& 31))
    · replace h := qa_iff (q := 87) (qa_e rfl h) rfl (qa_F_ge c1)
      replace h := qa_iload (n := 7) (q := 89) (qa_e rfl h) rfl g7
      replace h := qa_iload (n := 3) (q := 90) (qa_e rfl h) rfl g3
      replace h := qa_push (z := (-1 : Int32)) (q := 91) (qa_e rfl h) rfl (by decide)
      replace h := qa_ixor (q := 92) (qa_e rfl h) rfl
      replace h := qa_iand (q := 93) (qa_e rfl h) rfl
      obtain ⟨r3, er3⟩ : ∃ x, x = (ma_105_3 N (s.1 ||| ((1 : Int32) <<< (l1 &&& 31))) s.2.2) := ⟨_, rfl⟩
      obtain ⟨r4, er4⟩ : ∃ x, x = (ma_105_3 N s.1 r3.2) := ⟨_, rfl⟩
      obtain ⟨m5, em5⟩ : ∃ x, x = (if (s.1 &&& (l3 ^^^ (-1 : Int32))) = (0 : Int32) then r4.2 else s.2.2) := ⟨_, rfl⟩
      obtain ⟨lv, M, h, hM, es, g0, g1, g2, g3, g4, g5, g7⟩ : ∃ lv M, q4_run f 103 152 lv [] M 0 0 = some r ∧ qa_O M ∧ qa_s M = m5 ∧ q4_get lv 0 = some (.ref 3) ∧ q4_get lv 1 = some (.int (l1)) ∧ q4_get lv 2 = some (.int (l2)) ∧ q4_get lv 3 = some (.int (l3)) ∧ q4_get lv 4 = some (.int (l4)) ∧ q4_get lv 5 = some (.long ((if (s.1 &&& (l3 ^^^ (-1 : Int32))) = (0 : Int32) then (s.2.1 + ((((s.2.2 2 (ma_63 s.1).toNatClampNeg)).toInt64 * ((s.2.2 2 (l4 - (ma_63 s.1)).toNatClampNeg)).toInt64) * ((r3.1 - r4.1)).toInt64)) else s.2.1))) ∧ q4_get lv 7 = some (.int (s.1)) := by
        by_cases c2 : (s.1 &&& (l3 ^^^ (-1 : Int32))) = (0 : Int32)
        · replace h := qa_ict (q := 99) (qa_e rfl h) rfl (qa_T_eq c2)
          replace h := qa_iload (n := 7) (q := 101) (qa_e rfl h) rfl g7
          obtain ⟨M, h, hM, es⟩ := qa_c1 (y := 63) (as := [.int (s.1)]) (rest := []) (i := .invokestatic 63) (q := 104) (qa_e rfl h) (Or.inr rfl) rfl rfl (by decide) rfl (fun r hc => mb_63 hM es hc)
          obtain ⟨lv, h, g, T⟩ := qa_istore (n := 8) (q := 106) (qa_e rfl h) rfl
          replace g0 := T _ _ g0 (by decide) (Or.inr rfl)
          replace g1 := T _ _ g1 (by decide) (Or.inr rfl)
          replace g2 := T _ _ g2 (by decide) (Or.inr rfl)
          replace g3 := T _ _ g3 (by decide) (Or.inr rfl)
          replace g4 := T _ _ g4 (by decide) (Or.inr rfl)
          replace g5 := T _ _ g5 (by decide) (Or.inl (by decide))
          replace g7 := T _ _ g7 (by decide) (Or.inr rfl)
          have g8 := g
          clear g T
          replace h := qa_getstatic (q := 109) (qa_e rfl h) rfl
          replace h := qa_iload (n := 8) (q := 111) (qa_e rfl h) rfl g8
          replace h := qa_iaload (jn := (ma_63 s.1).toNatClampNeg) (q := 112) (qa_e rfl h) rfl hM es rfl
          replace h := qa_i2l (q := 113) (qa_e rfl h) rfl
          replace h := qa_getstatic (q := 116) (qa_e rfl h) rfl
          replace h := qa_iload (n := 4) (q := 118) (qa_e rfl h) rfl g4
          replace h := qa_iload (n := 8) (q := 120) (qa_e rfl h) rfl g8
          replace h := qa_isub (q := 121) (qa_e rfl h) rfl
          replace h := qa_iaload (jn := (l4 - (ma_63 s.1)).toNatClampNeg) (q := 122) (qa_e rfl h) rfl hM es rfl
          replace h := qa_i2l (q := 123) (qa_e rfl h) rfl
          replace h := qa_lmul (q := 124) (qa_e rfl h) rfl
          obtain ⟨lv, h, g, T⟩ := qa_lstore (n := 9) (q := 126) (qa_e rfl h) rfl
          replace g0 := T _ _ g0 (by decide) (by decide) (Or.inr rfl)
          replace g1 := T _ _ g1 (by decide) (by decide) (Or.inr rfl)
          replace g2 := T _ _ g2 (by decide) (by decide) (Or.inr rfl)
          replace g3 := T _ _ g3 (by decide) (by decide) (Or.inr rfl)
          replace g4 := T _ _ g4 (by decide) (by decide) (Or.inr rfl)
          replace g5 := T _ _ g5 (by decide) (by decide) (Or.inl (by decide))
          replace g7 := T _ _ g7 (by decide) (by decide) (Or.inr rfl)
          have g9 := g
          clear g T
          replace h := qa_lload (n := 5) (q := 128) (qa_e rfl h) rfl g5
          replace h := qa_lload (n := 9) (q := 130) (qa_e rfl h) rfl g9
          replace h := qa_aload (n := 0) (q := 131) (qa_e rfl h) rfl g0
          replace h := qa_iload (n := 7) (q := 133) (qa_e rfl h) rfl g7
          replace h := qa_push (z := (1 : Int32)) (q := 134) (qa_e rfl h) rfl (by decide)
          replace h := qa_iload (n := 1) (q := 135) (qa_e rfl h) rfl g1
          replace h := qa_ishl (q := 136) (qa_e rfl h) rfl
          replace h := qa_ior (q := 137) (qa_e rfl h) rfl
          obtain ⟨M, h, hM, es⟩ := qa_c1 (y := 105) (as := [.ref 3, .int ((s.1 ||| ((1 : Int32) <<< (l1 &&& 31))))]) (rest := [.long ((((s.2.2 2 (ma_63 s.1).toNatClampNeg)).toInt64 * ((s.2.2 2 (l4 - (ma_63 s.1)).toNatClampNeg)).toInt64)), .long (s.2.1)]) (i := .invokevirtual 105) (q := 140) (qa_e rfl h) (Or.inl rfl) rfl rfl (by decide) rfl (fun r hc => mb_105_3 hN hM es hc)
          rw [← er3] at h es
          replace h := qa_aload (n := 0) (q := 141) (qa_e rfl h) rfl g0
          replace h := qa_iload (n := 7) (q := 143) (qa_e rfl h) rfl g7
          obtain ⟨M, h, hM, es⟩ := qa_c1 (y := 105) (as := [.ref 3, .int (s.1)]) (rest := [.int (r3.1), .long ((((s.2.2 2 (ma_63 s.1).toNatClampNeg)).toInt64 * ((s.2.2 2 (l4 - (ma_63 s.1)).toNatClampNeg)).toInt64)), .long (s.2.1)]) (i := .invokevirtual 105) (q := 146) (qa_e rfl h) (Or.inl rfl) rfl rfl (by decide) rfl (fun r hc => mb_105_3 hN hM es hc)
          rw [← er4] at h es
          replace h := qa_isub (q := 147) (qa_e rfl h) rfl
          replace h := qa_i2l (q := 148) (qa_e rfl h) rfl
          replace h := qa_lmul (q := 149) (qa_e rfl h) rfl
          replace h := qa_ladd (q := 150) (qa_e rfl h) rfl
          obtain ⟨lv, h, g, T⟩ := qa_lstore (n := 5) (q := 152) (qa_e rfl h) rfl
          replace g0 := T _ _ g0 (by decide) (by decide) (Or.inr rfl)
          replace g1 := T _ _ g1 (by decide) (by decide) (Or.inr rfl)
          replace g2 := T _ _ g2 (by decide) (by decide) (Or.inr rfl)
          replace g3 := T _ _ g3 (by decide) (by decide) (Or.inr rfl)
          replace g4 := T _ _ g4 (by decide) (by decide) (Or.inr rfl)
          replace g7 := T _ _ g7 (by decide) (by decide) (Or.inr rfl)
          have g5 := g
          clear g T
          exact ⟨lv, M, h, hM, ((qa_ms1 c2 es).trans em5.symm), g0, g1, g2, g3, g4, (qa_gl1 c2 g5), g7⟩
        · replace h := qa_icf (q := 96) (qa_e rfl h) rfl (qa_F_eq c2)
          replace h := qa_goto (q := 152) (qa_e rfl h) rfl
          exact ⟨lv, M, h, hM, ((qa_ms0 c2 es).trans em5.symm), g0, g1, g2, g3, g4, (qa_gl0 c2 g5), g7⟩
      obtain ⟨lv, h, g, T⟩ := qa_iinc (n := 7) (z := (1 : Int32)) (q := 155) (qa_e rfl h) rfl (by decide) g7
      replace g0 := T _ _ g0 (by decide) (Or.inr rfl)
      replace g1 := T _ _ g1 (by decide) (Or.inr rfl)
      replace g2 := T _ _ g2 (by decide) (Or.inr rfl)
      replace g3 := T _ _ g3 (by decide) (Or.inr rfl)
      replace g4 := T _ _ g4 (by decide) (Or.inr rfl)
      replace g5 := T _ _ g5 (by decide) (Or.inl (by decide))
      replace g7 := g
      clear g T
      replace h := qa_goto (q := 73) (qa_e rfl h) rfl
      have e0 : mc_103_3_p73 N l1 l2 l3 l4 s = .inl ((s.1 + (1 : Int32)), (if (s.1 &&& (l3 ^^^ (-1 : Int32))) = (0 : Int32) then (s.2.1 + ((((s.2.2 2 (ma_63 s.1).toNatClampNeg)).toInt64 * ((s.2.2 2 (l4 - (ma_63 s.1)).toNatClampNeg)).toInt64) * ((r3.1 - r4.1)).toInt64)) else s.2.1), m5) := by exact Eq.trans (if_pos c1) (Eq.trans (qa_ie er3) (Eq.trans (qa_ie er4) (Eq.trans (qa_ie em5) (rfl))))
      rw [qa_whl e0]
      exact ih n hn (Nat.le_of_succ_le hF) ((s.1 + (1 : Int32)), (if (s.1 &&& (l3 ^^^ (-1 : Int32))) = (0 : Int32) then (s.2.1 + ((((s.2.2 2 (ma_63 s.1).toNatClampNeg)).toInt64 * ((s.2.2 2 (l4 - (ma_63 s.1)).toNatClampNeg)).toInt64) * ((r3.1 - r4.1)).toInt64)) else s.2.1), m5) _ _ hM es g0 g1 g2 g3 g4 g5 g7 h
    · replace h := qa_ift (q := 158) (qa_e rfl h) rfl (qa_T_ge c1)
      have e0 : mc_103_3_p73 N l1 l2 l3 l4 s = .inr (s.1, s.2.1, s.2.2) := by exact Eq.trans (if_neg c1) (rfl)
      rw [qa_whr e0]
      exact ⟨_, _, q61_mono f F _ _ _ _ _ _ _ _ (Nat.le_of_succ_le hF) h, hM, es, g2, g4, g5⟩
/-- BuriedBySevens, adds, (II)J -/
noncomputable def ma_103_3 (N : Nat) (a1 : Int32) (a2 : Int32) (σ : qa_S) : Int64 × qa_S :=
  if (ma_22_4 a1 σ) = (0 : Int32) then
    qa_in ((ma_81_3 (-1 : Int32) σ)) fun r2 =>
    (r2.1, r2.2)
  else
    if (ma_57 a2) = (0 : Int32) then
      qa_in ((ma_81_3 (-2 : Int32) σ)) fun r4 =>
      (r4.1, r4.2)
    else
      if (σ 7 a1.toNatClampNeg) = (0 : Int32) then
        qa_in ((ma_81_3 (-3 : Int32) σ)) fun r6 =>
        (r6.1, r6.2)
      else
        qa_in ((ma_104_3 N σ)) fun r7 =>
        qa_in ((qa_wh (fun s => s) (mc_103_3_p73 N a1 a2 (r7 &&& (((1 : Int32) <<< (a1 &&& 31)) ^^^ (-1 : Int32))) (ma_63 (r7 &&& (((1 : Int32) <<< (a1 &&& 31)) ^^^ (-1 : Int32))))) N ((0 : Int32), (0 : Int64), σ))) fun r8 =>
        qa_in ((ma_83 N r8.2.1 ((r8.2.2 2 ((ma_63 (r7 &&& (((1 : Int32) <<< (a1 &&& 31)) ^^^ (-1 : Int32)))) + (1 : Int32)).toNatClampNeg)).toInt64 a2)) fun r9 =>
        (r9, r8.2.2)
theorem mb_103_3 {f N : Nat} (hN : f ≤ N) {M : q4_M} {r : Option Value × q4_M} {σ : qa_S} {a1 : Int32} {a2 : Int32} (hM : qa_O M) (es : qa_s M = σ) (h : q4_run f 103 0 (lv_args 0 [.ref 3, .int (a1), .int (a2)]) [] M 0 0 = some r) : r.1 = some (.long ((ma_103_3 N a1 a2 σ).1)) ∧ qa_O r.2 ∧ qa_s r.2 = (ma_103_3 N a1 a2 σ).2 := by
  obtain ⟨lv, el⟩ : ∃ l, l = lv_args 0 [.ref 3, .int (a1), .int (a2)] := ⟨_, rfl⟩
  have g0 : q4_get lv 0 = some (.ref 3) := by rw [el]; rfl
  have g1 : q4_get lv 1 = some (.int (a1)) := by rw [el]; rfl
  have g2 : q4_get lv 2 = some (.int (a2)) := by rw [el]; rfl
  rw [← el] at h
  clear el
  replace h := qa_aload (n := 0) (q := 1) (qa_e rfl h) rfl g0
  replace h := qa_gr (b := 4) (j := 0) (q := 4) (qa_e rfl h) rfl hM rfl (by decide)
  replace h := qa_iload (n := 1) (q := 5) (qa_e rfl h) rfl g1
  obtain ⟨M, h, hM, es⟩ := qa_c1 (y := 22) (as := [.ref 4, .int (a1)]) (rest := []) (i := .invokevirtual 22) (q := 8) (qa_e rfl h) (Or.inl rfl) rfl rfl (by decide) rfl (fun r hc => mb_22_4 hM es hc)
  by_cases c1 : (ma_22_4 a1 σ) = (0 : Int32)
  · replace h := qa_icf (q := 11) (qa_e rfl h) rfl (qa_F_ne c1)
    replace h := qa_aload (n := 0) (q := 12) (qa_e rfl h) rfl g0
    replace h := qa_push (z := (-1 : Int32)) (q := 13) (qa_e rfl h) rfl (by decide)
    obtain ⟨r2, er2⟩ : ∃ x, x = (ma_81_3 (-1 : Int32) σ) := ⟨_, rfl⟩
    obtain ⟨M, h, hM, es⟩ := qa_c1 (y := 81) (as := [.ref 3, .int ((-1 : Int32))]) (rest := []) (i := .invokevirtual 81) (q := 16) (qa_e rfl h) (Or.inl rfl) rfl rfl (by decide) rfl (fun r hc => mb_81_3 hM es hc)
    rw [← er2] at h es
    have er := qa_rl (qa_e rfl h)
    subst er
    have e0 : ma_103_3 N a1 a2 σ = (r2.1, r2.2) := by exact Eq.trans (if_pos c1) (Eq.trans (qa_ie er2) (rfl))
    rw [e0]
    exact ⟨rfl, hM, es⟩
  · replace h := qa_ict (q := 17) (qa_e rfl h) rfl (qa_T_ne c1)
    replace h := qa_iload (n := 2) (q := 18) (qa_e rfl h) rfl g2
    obtain ⟨M, h, hM, es⟩ := qa_c1 (y := 57) (as := [.int (a2)]) (rest := []) (i := .invokestatic 57) (q := 21) (qa_e rfl h) (Or.inr rfl) rfl rfl (by decide) rfl (fun r hc => mb_57 hM es hc)
    by_cases c3 : (ma_57 a2) = (0 : Int32)
    · replace h := qa_icf (q := 24) (qa_e rfl h) rfl (qa_F_ne c3)
      replace h := qa_aload (n := 0) (q := 25) (qa_e rfl h) rfl g0
      replace h := qa_push (z := (-2 : Int32)) (q := 27) (qa_e rfl h) rfl (by decide)
      obtain ⟨r4, er4⟩ : ∃ x, x = (ma_81_3 (-2 : Int32) σ) := ⟨_, rfl⟩
      obtain ⟨M, h, hM, es⟩ := qa_c1 (y := 81) (as := [.ref 3, .int ((-2 : Int32))]) (rest := []) (i := .invokevirtual 81) (q := 30) (qa_e rfl h) (Or.inl rfl) rfl rfl (by decide) rfl (fun r hc => mb_81_3 hM es hc)
      rw [← er4] at h es
      have er := qa_rl (qa_e rfl h)
      subst er
      have e0 : ma_103_3 N a1 a2 σ = (r4.1, r4.2) := by exact Eq.trans (if_neg c1) (Eq.trans (if_pos c3) (Eq.trans (qa_ie er4) (rfl)))
      rw [e0]
      exact ⟨rfl, hM, es⟩
    · replace h := qa_ict (q := 31) (qa_e rfl h) rfl (qa_T_ne c3)
      replace h := qa_aload (n := 0) (q := 32) (qa_e rfl h) rfl g0
      replace h := qa_gr (b := 4) (j := 0) (q := 35) (qa_e rfl h) rfl hM rfl (by decide)
      replace h := qa_gr (b := 7) (j := 4) (q := 38) (qa_e rfl h) rfl hM rfl (by decide)
      replace h := qa_iload (n := 1) (q := 39) (qa_e rfl h) rfl g1
      replace h := qa_iaload (jn := a1.toNatClampNeg) (q := 40) (qa_e rfl h) rfl hM es rfl
      by_cases c5 : (σ 7 a1.toNatClampNeg) = (0 : Int32)
      · replace h := qa_icf (q := 43) (qa_e rfl h) rfl (qa_F_ne c5)
        replace h := qa_aload (n := 0) (q := 44) (qa_e rfl h) rfl g0
        replace h := qa_push (z := (-3 : Int32)) (q := 46) (qa_e rfl h) rfl (by decide)
        obtain ⟨r6, er6⟩ : ∃ x, x = (ma_81_3 (-3 : Int32) σ) := ⟨_, rfl⟩
        obtain ⟨M, h, hM, es⟩ := qa_c1 (y := 81) (as := [.ref 3, .int ((-3 : Int32))]) (rest := []) (i := .invokevirtual 81) (q := 49) (qa_e rfl h) (Or.inl rfl) rfl rfl (by decide) rfl (fun r hc => mb_81_3 hM es hc)
        rw [← er6] at h es
        have er := qa_rl (qa_e rfl h)
        subst er
        have e0 : ma_103_3 N a1 a2 σ = (r6.1, r6.2) := by exact Eq.trans (if_neg c1) (Eq.trans (if_neg c3) (Eq.trans (if_pos c5) (Eq.trans (qa_ie er6) (rfl))))
        rw [e0]
        exact ⟨rfl, hM, es⟩
      · replace h := qa_ict (q := 50) (qa_e rfl h) rfl (qa_T_ne c5)
        replace h := qa_aload (n := 0) (q := 51) (qa_e rfl h) rfl g0
        obtain ⟨r7, er7⟩ : ∃ x, x = (ma_104_3 N σ) := ⟨_, rfl⟩
        obtain ⟨M, h, hM, es⟩ := qa_c1 (y := 104) (as := [.ref 3]) (rest := []) (i := .invokevirtual 104) (q := 54) (qa_e rfl h) (Or.inl rfl) rfl rfl (by decide) rfl (fun r hc => mb_104_3 hN hM es hc)
        rw [← er7] at h
        replace h := qa_push (z := (1 : Int32)) (q := 55) (qa_e rfl h) rfl (by decide)
        replace h := qa_iload (n := 1) (q := 56) (qa_e rfl h) rfl g1
        replace h := qa_ishl (q := 57) (qa_e rfl h) rfl
        replace h := qa_push (z := (-1 : Int32)) (q := 58) (qa_e rfl h) rfl (by decide)
        replace h := qa_ixor (q := 59) (qa_e rfl h) rfl
        replace h := qa_iand (q := 60) (qa_e rfl h) rfl
        obtain ⟨lv, h, g, T⟩ := qa_istore (n := 3) (q := 61) (qa_e rfl h) rfl
        replace g0 := T _ _ g0 (by decide) (Or.inr rfl)
        replace g1 := T _ _ g1 (by decide) (Or.inr rfl)
        replace g2 := T _ _ g2 (by decide) (Or.inr rfl)
        have g3 := g
        clear g T
        replace h := qa_iload (n := 3) (q := 62) (qa_e rfl h) rfl g3
        obtain ⟨M, h, hM, es⟩ := qa_c1 (y := 63) (as := [.int ((r7 &&& (((1 : Int32) <<< (a1 &&& 31)) ^^^ (-1 : Int32))))]) (rest := []) (i := .invokestatic 63) (q := 65) (qa_e rfl h) (Or.inr rfl) rfl rfl (by decide) rfl (fun r hc => mb_63 hM es hc)
        obtain ⟨lv, h, g, T⟩ := qa_istore (n := 4) (q := 67) (qa_e rfl h) rfl
        replace g0 := T _ _ g0 (by decide) (Or.inr rfl)
        replace g1 := T _ _ g1 (by decide) (Or.inr rfl)
        replace g2 := T _ _ g2 (by decide) (Or.inr rfl)
        replace g3 := T _ _ g3 (by decide) (Or.inr rfl)
        have g4 := g
        clear g T
        replace h := qa_lpush (z := (0 : Int64)) (q := 68) (qa_e rfl h) rfl (by decide)
        obtain ⟨lv, h, g, T⟩ := qa_lstore (n := 5) (q := 70) (qa_e rfl h) rfl
        replace g0 := T _ _ g0 (by decide) (by decide) (Or.inr rfl)
        replace g1 := T _ _ g1 (by decide) (by decide) (Or.inr rfl)
        replace g2 := T _ _ g2 (by decide) (by decide) (Or.inr rfl)
        replace g3 := T _ _ g3 (by decide) (by decide) (Or.inr rfl)
        replace g4 := T _ _ g4 (by decide) (by decide) (Or.inr rfl)
        have g5 := g
        clear g T
        replace h := qa_push (z := (0 : Int32)) (q := 71) (qa_e rfl h) rfl (by decide)
        obtain ⟨lv, h, g, T⟩ := qa_istore (n := 7) (q := 73) (qa_e rfl h) rfl
        replace g0 := T _ _ g0 (by decide) (Or.inr rfl)
        replace g1 := T _ _ g1 (by decide) (Or.inr rfl)
        replace g2 := T _ _ g2 (by decide) (Or.inr rfl)
        replace g3 := T _ _ g3 (by decide) (Or.inr rfl)
        replace g4 := T _ _ g4 (by decide) (Or.inr rfl)
        replace g5 := T _ _ g5 (by decide) (Or.inl (by decide))
        have g7 := g
        clear g T
        obtain ⟨r8, er8⟩ : ∃ x, x = (qa_wh (fun s => s) (mc_103_3_p73 N a1 a2 (r7 &&& (((1 : Int32) <<< (a1 &&& 31)) ^^^ (-1 : Int32))) (ma_63 (r7 &&& (((1 : Int32) <<< (a1 &&& 31)) ^^^ (-1 : Int32))))) N ((0 : Int32), (0 : Int64), σ)) := ⟨_, rfl⟩
        have L := md_103_3_p73 (l1 := a1) (l2 := a2) (l3 := (r7 &&& (((1 : Int32) <<< (a1 &&& 31)) ^^^ (-1 : Int32)))) (l4 := (ma_63 (r7 &&& (((1 : Int32) <<< (a1 &&& 31)) ^^^ (-1 : Int32))))) (F := f) (N := N) (r := r) hN f N hN (Nat.le_refl f) ((0 : Int32), (0 : Int64), σ) _ _ hM es g0 g1 g2 g3 g4 g5 g7 h
        rw [← er8] at L
        obtain ⟨lv, M, h, hM, es, g2, g4, g5⟩ := L
        replace h := qa_lload (n := 5) (q := 160) (qa_e rfl h) rfl g5
        replace h := qa_getstatic (q := 163) (qa_e rfl h) rfl
        replace h := qa_iload (n := 4) (q := 165) (qa_e rfl h) rfl g4
        replace h := qa_push (z := (1 : Int32)) (q := 166) (qa_e rfl h) rfl (by decide)
        replace h := qa_iadd (q := 167) (qa_e rfl h) rfl
        replace h := qa_iaload (jn := ((ma_63 (r7 &&& (((1 : Int32) <<< (a1 &&& 31)) ^^^ (-1 : Int32)))) + (1 : Int32)).toNatClampNeg) (q := 168) (qa_e rfl h) rfl hM es rfl
        replace h := qa_i2l (q := 169) (qa_e rfl h) rfl
        replace h := qa_iload (n := 2) (q := 170) (qa_e rfl h) rfl g2
        obtain ⟨r9, er9⟩ : ∃ x, x = (ma_83 N r8.2.1 ((r8.2.2 2 ((ma_63 (r7 &&& (((1 : Int32) <<< (a1 &&& 31)) ^^^ (-1 : Int32)))) + (1 : Int32)).toNatClampNeg)).toInt64 a2) := ⟨_, rfl⟩
        obtain ⟨M, h, hM, es⟩ := qa_c1 (y := 83) (as := [.long (r8.2.1), .long (((r8.2.2 2 ((ma_63 (r7 &&& (((1 : Int32) <<< (a1 &&& 31)) ^^^ (-1 : Int32)))) + (1 : Int32)).toNatClampNeg)).toInt64), .int (a2)]) (rest := []) (i := .invokestatic 83) (q := 173) (qa_e rfl h) (Or.inr rfl) rfl rfl (by decide) rfl (fun r hc => mb_83 hN hM es hc)
        rw [← er9] at h
        have er := qa_rl (qa_e rfl h)
        subst er
        have e0 : ma_103_3 N a1 a2 σ = (r9, r8.2.2) := by exact Eq.trans (if_neg c1) (Eq.trans (if_neg c3) (Eq.trans (if_neg c5) (Eq.trans (qa_ie er7) (Eq.trans (qa_ie er8) (Eq.trans (qa_ie er9) (rfl))))))
        rw [e0]
        exact ⟨rfl, hM, es⟩
noncomputable def mc_107_p5 (N : Nat) (l0 : Int64) (l2 : Int32) (s : Int32 × Int64) : (Int32 × Int64) ⊕ (Int32 × Int64) :=
  if s.1 < l2 then
    .inl ((s.1 + (1 : Int32)), (s.2 * l0))
  else
    .inr (s.1, s.2)
theorem md_107_p5 {N F : Nat} {r : Option Value × q4_M} {l0 : Int64} {l2 : Int32} {σ : qa_S} (hN : F ≤ N) : ∀ f n, f ≤ n → f ≤ F → ∀ (s : Int32 × Int64) (lv : List (Nat × Value)) (M : q4_M), qa_O M → qa_s M = σ → q4_get lv 0 = some (.long (l0)) → q4_get lv 2 = some (.int (l2)) → q4_get lv 3 = some (.long (s.2)) → q4_get lv 5 = some (.int (s.1)) → q4_run f 107 5 lv [] M 0 0 = some r → ∃ lv M, q4_run F 107 21 lv [] M 0 0 = some r ∧ qa_O M ∧ qa_s M = σ ∧ q4_get lv 3 = some (.long ((qa_wh (fun s => s) (mc_107_p5 N l0 l2) n s).2)) := by
  intro f
  induction f with
  | zero => intro n _ _ s lv M hM es _ _ _ _ h; cases h
  | succ f ih =>
    intro n hn hF s lv M hM es g0 g2 g3 g5 h
    obtain ⟨n, rfl⟩ : ∃ n1, n = n1 + 1 := ⟨n - 1, by omega⟩
    replace hn : f ≤ n := Nat.le_of_succ_le_succ hn
    have hN := Nat.le_trans (Nat.le_of_succ_le hF) hN
    replace h := qa_iload (n := 5) (q := 7) (qa_d rfl h) rfl g5
    replace h := qa_iload (n := 2) (q := 8) (qa_e rfl h) rfl g2
    by_cases c1 : s.1 < l2
    · replace h := qa_iff (q := 11) (qa_e rfl h) rfl (qa_F_ge c1)
      replace h := qa_lload (n := 3) (q := 12) (qa_e rfl h) rfl g3
      replace h := qa_lload (n := 0) (q := 13) (qa_e rfl h) rfl g0
      replace h := qa_lmul (q := 14) (qa_e rfl h) rfl
      obtain ⟨lv, h, g, T⟩ := qa_lstore (n := 3) (q := 15) (qa_e rfl h) rfl
      replace g0 := T _ _ g0 (by decide) (by decide) (Or.inl (by decide))
      replace g2 := T _ _ g2 (by decide) (by decide) (Or.inr rfl)
      replace g5 := T _ _ g5 (by decide) (by decide) (Or.inr rfl)
      have g3 := g
      clear g T
      obtain ⟨lv, h, g, T⟩ := qa_iinc (n := 5) (z := (1 : Int32)) (q := 18) (qa_e rfl h) rfl (by decide) g5
      replace g0 := T _ _ g0 (by decide) (Or.inl (by decide))
      replace g2 := T _ _ g2 (by decide) (Or.inr rfl)
      replace g3 := T _ _ g3 (by decide) (Or.inl (by decide))
      replace g5 := g
      clear g T
      replace h := qa_goto (q := 5) (qa_e rfl h) rfl
      have e0 : mc_107_p5 N l0 l2 s = .inl ((s.1 + (1 : Int32)), (s.2 * l0)) := by exact Eq.trans (if_pos c1) (rfl)
      rw [qa_whl e0]
      exact ih n hn (Nat.le_of_succ_le hF) ((s.1 + (1 : Int32)), (s.2 * l0)) _ _ hM es g0 g2 g3 g5 h
    · replace h := qa_ift (q := 21) (qa_e rfl h) rfl (qa_T_ge c1)
      have e0 : mc_107_p5 N l0 l2 s = .inr (s.1, s.2) := by exact Eq.trans (if_neg c1) (rfl)
      rw [qa_whr e0]
      exact ⟨_, _, q61_mono f F _ _ _ _ _ _ _ _ (Nat.le_of_succ_le hF) h, hM, es, g3⟩
/-- BuriedBySevens, power, (JI)J -/
noncomputable def ma_107 (N : Nat) (a0 : Int64) (a2 : Int32) : Int64 :=
  qa_in ((qa_wh (fun s => s) (mc_107_p5 N a0 a2) N ((0 : Int32), (1 : Int64)))) fun r1 =>
  r1.2
theorem mb_107 {f N : Nat} (hN : f ≤ N) {M : q4_M} {r : Option Value × q4_M} {σ : qa_S} {a0 : Int64} {a2 : Int32} (hM : qa_O M) (es : qa_s M = σ) (h : q4_run f 107 0 (lv_args 0 [.long (a0), .int (a2)]) [] M 0 0 = some r) : r.1 = some (.long ((ma_107 N a0 a2))) ∧ qa_O r.2 ∧ qa_s r.2 = σ := by
  obtain ⟨lv, el⟩ : ∃ l, l = lv_args 0 [.long (a0), .int (a2)] := ⟨_, rfl⟩
  have g0 : q4_get lv 0 = some (.long (a0)) := by rw [el]; rfl
  have g2 : q4_get lv 2 = some (.int (a2)) := by rw [el]; rfl
  rw [← el] at h
  clear el
  replace h := qa_lpush (z := (1 : Int64)) (q := 1) (qa_e rfl h) rfl (by decide)
  obtain ⟨lv, h, g, T⟩ := qa_lstore (n := 3) (q := 2) (qa_e rfl h) rfl
  replace g0 := T _ _ g0 (by decide) (by decide) (Or.inl (by decide))
  replace g2 := T _ _ g2 (by decide) (by decide) (Or.inr rfl)
  have g3 := g
  clear g T
  replace h := qa_push (z := (0 : Int32)) (q := 3) (qa_e rfl h) rfl (by decide)
  obtain ⟨lv, h, g, T⟩ := qa_istore (n := 5) (q := 5) (qa_e rfl h) rfl
  replace g0 := T _ _ g0 (by decide) (Or.inl (by decide))
  replace g2 := T _ _ g2 (by decide) (Or.inr rfl)
  replace g3 := T _ _ g3 (by decide) (Or.inl (by decide))
  have g5 := g
  clear g T
  obtain ⟨r1, er1⟩ : ∃ x, x = (qa_wh (fun s => s) (mc_107_p5 N a0 a2) N ((0 : Int32), (1 : Int64))) := ⟨_, rfl⟩
  have L := md_107_p5 (l0 := a0) (l2 := a2) (σ := σ) (F := f) (N := N) (r := r) hN f N hN (Nat.le_refl f) ((0 : Int32), (1 : Int64)) _ _ hM es g0 g2 g3 g5 h
  rw [← er1] at L
  obtain ⟨lv, M, h, hM, es, g3⟩ := L
  replace h := qa_lload (n := 3) (q := 22) (qa_e rfl h) rfl g3
  have er := qa_rl (qa_e rfl h)
  subst er
  have e0 : ma_107 N a0 a2 = r1.2 := by exact Eq.trans (qa_ie er1) (rfl)
  rw [e0]
  exact ⟨rfl, hM, es⟩
noncomputable def mc_106_3_p58 (N : Nat) (l1 : Int32) (l2 : Int32) (l3 : Int32) (σ : qa_S) (s : Int32 × Int64) : (Int32 × Int64) ⊕ (Int32 × Int64) :=
  if (ma_60_3 σ) < s.1 then
    .inr (s.1, s.2)
  else
    qa_in ((ma_61_3 N s.1 σ)) fun r2 =>
    qa_in ((ma_107 N ((l1 - (1 : Int32))).toInt64 (ma_63 s.1))) fun r4 =>
    .inl ((s.1 + (1 : Int32)), (if r2 = l3 then (s.2 + r4) else s.2))
theorem md_106_3_p58 {N F : Nat} {r : Option Value × q4_M} {l1 : Int32} {l2 : Int32} {l3 : Int32} {σ : qa_S} (hN : F ≤ N) : ∀ f n, f ≤ n → f ≤ F → ∀ (s : Int32 × Int64) (lv : List (Nat × Value)) (M : q4_M), qa_O M → qa_s M = σ → q4_get lv 0 = some (.ref 3) → q4_get lv 1 = some (.int (l1)) → q4_get lv 2 = some (.int (l2)) → q4_get lv 3 = some (.int (l3)) → q4_get lv 4 = some (.long (s.2)) → q4_get lv 6 = some (.int (s.1)) → q4_run f 106 58 lv [] M 0 0 = some r → ∃ lv M, q4_run F 106 100 lv [] M 0 0 = some r ∧ qa_O M ∧ qa_s M = σ ∧ q4_get lv 0 = some (.ref 3) ∧ q4_get lv 1 = some (.int (l1)) ∧ q4_get lv 2 = some (.int (l2)) ∧ q4_get lv 4 = some (.long ((qa_wh (fun s => s) (mc_106_3_p58 N l1 l2 l3 σ) n s).2)) := by
  intro f
  induction f with
  | zero => intro n _ _ s lv M hM es _ _ _ _ _ _ h; cases h
  | succ f ih =>
    intro n hn hF s lv M hM es g0 g1 g2 g3 g4 g6 h
    obtain ⟨n, rfl⟩ : ∃ n1, n = n1 + 1 := ⟨n - 1, by omega⟩
    replace hn : f ≤ n := Nat.le_of_succ_le_succ hn
    have hN := Nat.le_trans (Nat.le_of_succ_le hF) hN
    replace h := qa_iload (n := 6) (q := 60) (qa_d rfl h) rfl g6
    replace h := qa_aload (n := 0) (q := 61) (qa_e rfl h) rfl g0
    obtain ⟨M, h, hM, es⟩ := qa_c1 (y := 60) (as := [.ref 3]) (rest := [.int (s.1)]) (i := .invokevirtual 60) (q := 64) (qa_e rfl h) (Or.inl rfl) rfl rfl (by decide) rfl (fun r hc => mb_60_3 hM es hc)
    by_cases c1 : (ma_60_3 σ) < s.1
    · replace h := qa_ift (q := 100) (qa_e rfl h) rfl (qa_T_gt c1)
      have e0 : mc_106_3_p58 N l1 l2 l3 σ s = .inr (s.1, s.2) := by exact Eq.trans (if_pos c1) (rfl)
      rw [qa_whr e0]
      exact ⟨_, _, q61_mono f F _ _ _ _ _ _ _ _ (Nat.le_of_succ_le hF) h, hM, es, g0, g1, g2, g4⟩
    · replace h := qa_iff (q := 67) (qa_e rfl h) rfl (qa_F_gt c1)
      replace h := qa_aload (n := 0) (q := 68) (qa_e rfl h) rfl g0
      replace h := qa_iload (n := 6) (q := 70) (qa_e rfl h) rfl g6
      obtain ⟨r2, er2⟩ : ∃ x, x = (ma_61_3 N s.1 σ) := ⟨_, rfl⟩
      obtain ⟨M, h, hM, es⟩ := qa_c1 (y := 61) (as := [.ref 3, .int (s.1)]) (rest := []) (i := .invokevirtual 61) (q := 73) (qa_e rfl h) (Or.inl rfl) rfl rfl (by decide) rfl (fun r hc => mb_61_3 hN hM es hc)
      rw [← er2] at h
      replace h := qa_iload (n := 3) (q := 74) (qa_e rfl h) rfl g3
      obtain ⟨r4, er4⟩ : ∃ x, x = (ma_107 N ((l1 - (1 : Int32))).toInt64 (ma_63 s.1)) := ⟨_, rfl⟩
      obtain ⟨lv, M, h, hM, es, g0, g1, g2, g3, g4, g6⟩ : ∃ lv M, q4_run f 106 94 lv [] M 0 0 = some r ∧ qa_O M ∧ qa_s M = σ ∧ q4_get lv 0 = some (.ref 3) ∧ q4_get lv 1 = some (.int (l1)) ∧ q4_get lv 2 = some (.int (l2)) ∧ q4_get lv 3 = some (.int (l3)) ∧ q4_get lv 4 = some (.long ((if r2 = l3 then (s.2 + r4) else s.2))) ∧ q4_get lv 6 = some (.int (s.1)) := by
        by_cases c3 : r2 = l3
        · replace h := qa_iff (q := 77) (qa_e rfl h) rfl (qa_F_ne c3)
          replace h := qa_lload (n := 4) (q := 79) (qa_e rfl h) rfl g4
          replace h := qa_iload (n := 1) (q := 80) (qa_e rfl h) rfl g1
          replace h := qa_push (z := (1 : Int32)) (q := 81) (qa_e rfl h) rfl (by decide)
          replace h := qa_isub (q := 82) (qa_e rfl h) rfl
          replace h := qa_i2l (q := 83) (qa_e rfl h) rfl
          replace h := qa_iload (n := 6) (q := 85) (qa_e rfl h) rfl g6
          obtain ⟨M, h, hM, es⟩ := qa_c1 (y := 63) (as := [.int (s.1)]) (rest := [.long (((l1 - (1 : Int32))).toInt64), .long (s.2)]) (i := .invokestatic 63) (q := 88) (qa_e rfl h) (Or.inr rfl) rfl rfl (by decide) rfl (fun r hc => mb_63 hM es hc)
          obtain ⟨M, h, hM, es⟩ := qa_c1 (y := 107) (as := [.long (((l1 - (1 : Int32))).toInt64), .int ((ma_63 s.1))]) (rest := [.long (s.2)]) (i := .invokestatic 107) (q := 91) (qa_e rfl h) (Or.inr rfl) rfl rfl (by decide) rfl (fun r hc => mb_107 hN hM es hc)
          rw [← er4] at h
          replace h := qa_ladd (q := 92) (qa_e rfl h) rfl
          obtain ⟨lv, h, g, T⟩ := qa_lstore (n := 4) (q := 94) (qa_e rfl h) rfl
          replace g0 := T _ _ g0 (by decide) (by decide) (Or.inr rfl)
          replace g1 := T _ _ g1 (by decide) (by decide) (Or.inr rfl)
          replace g2 := T _ _ g2 (by decide) (by decide) (Or.inr rfl)
          replace g3 := T _ _ g3 (by decide) (by decide) (Or.inr rfl)
          replace g6 := T _ _ g6 (by decide) (by decide) (Or.inr rfl)
          have g4 := g
          clear g T
          exact ⟨lv, M, h, hM, es, g0, g1, g2, g3, (qa_gl1 c3 g4), g6⟩
        · replace h := qa_ift (q := 94) (qa_e rfl h) rfl (qa_T_ne c3)
          exact ⟨lv, M, h, hM, es, g0, g1, g2, g3, (qa_gl0 c3 g4), g6⟩
      obtain ⟨lv, h, g, T⟩ := qa_iinc (n := 6) (z := (1 : Int32)) (q := 97) (qa_e rfl h) rfl (by decide) g6
      replace g0 := T _ _ g0 (by decide) (Or.inr rfl)
      replace g1 := T _ _ g1 (by decide) (Or.inr rfl)
      replace g2 := T _ _ g2 (by decide) (Or.inr rfl)
      replace g3 := T _ _ g3 (by decide) (Or.inr rfl)
      replace g4 := T _ _ g4 (by decide) (Or.inl (by decide))
      replace g6 := g
      clear g T
      replace h := qa_goto (q := 58) (qa_e rfl h) rfl
      have e0 : mc_106_3_p58 N l1 l2 l3 σ s = .inl ((s.1 + (1 : Int32)), (if r2 = l3 then (s.2 + r4) else s.2)) := by exact Eq.trans (if_neg c1) (Eq.trans (qa_ie er2) (Eq.trans (qa_ie er4) (rfl)))
      rw [qa_whl e0]
      exact ih n hn (Nat.le_of_succ_le hF) ((s.1 + (1 : Int32)), (if r2 = l3 then (s.2 + r4) else s.2)) _ _ hM es g0 g1 g2 g3 g4 g6 h
/-- BuriedBySevens, onions, (II)J -/
noncomputable def ma_106_3 (N : Nat) (a1 : Int32) (a2 : Int32) (σ : qa_S) : Int64 × qa_S :=
  if a1 < (2 : Int32) then
    qa_in ((ma_81_3 (-4 : Int32) σ)) fun r2 =>
    (r2.1, r2.2)
  else
    if (20 : Int32) < a1 then
      qa_in ((ma_81_3 (-6 : Int32) σ)) fun r4 =>
      (r4.1, r4.2)
    else
      if (ma_57 a2) = (0 : Int32) then
        qa_in ((ma_81_3 (-2 : Int32) σ)) fun r6 =>
        (r6.1, r6.2)
      else
        qa_in ((ma_58_3 N σ)) fun m7 =>
        qa_in ((ma_61_3 N (ma_60_3 m7) m7)) fun r8 =>
        qa_in ((qa_wh (fun s => s) (mc_106_3_p58 N a1 a2 r8 m7) N ((0 : Int32), (0 : Int64)))) fun r9 =>
        qa_in ((ma_107 N (a1).toInt64 (m7 4 1))) fun r10 =>
        qa_in ((ma_83 N r9.2 r10 a2)) fun r11 =>
        (r11, m7)
theorem mb_106_3 {f N : Nat} (hN : f ≤ N) {M : q4_M} {r : Option Value × q4_M} {σ : qa_S} {a1 : Int32} {a2 : Int32} (hM : qa_O M) (es : qa_s M = σ) (h : q4_run f 106 0 (lv_args 0 [.ref 3, .int (a1), .int (a2)]) [] M 0 0 = some r) : r.1 = some (.long ((ma_106_3 N a1 a2 σ).1)) ∧ qa_O r.2 ∧ qa_s r.2 = (ma_106_3 N a1 a2 σ).2 := by
  obtain ⟨lv, el⟩ : ∃ l, l = lv_args 0 [.ref 3, .int (a1), .int (a2)] := ⟨_, rfl⟩
  have g0 : q4_get lv 0 = some (.ref 3) := by rw [el]; rfl
  have g1 : q4_get lv 1 = some (.int (a1)) := by rw [el]; rfl
  have g2 : q4_get lv 2 = some (.int (a2)) := by rw [el]; rfl
  rw [← el] at h
  clear el
  replace h := qa_iload (n := 1) (q := 1) (qa_e rfl h) rfl g1
  replace h := qa_push (z := (2 : Int32)) (q := 2) (qa_e rfl h) rfl (by decide)
  by_cases c1 : a1 < (2 : Int32)
  · replace h := qa_iff (q := 5) (qa_e rfl h) rfl (qa_F_ge c1)
    replace h := qa_aload (n := 0) (q := 6) (qa_e rfl h) rfl g0
    replace h := qa_push (z := (-4 : Int32)) (q := 8) (qa_e rfl h) rfl (by decide)
    obtain ⟨r2, er2⟩ : ∃ x, x = (ma_81_3 (-4 : Int32) σ) := ⟨_, rfl⟩
    obtain ⟨M, h, hM, es⟩ := qa_c1 (y := 81) (as := [.ref 3, .int ((-4 : Int32))]) (rest := []) (i := .invokevirtual 81) (q := 11) (qa_e rfl h) (Or.inl rfl) rfl rfl (by decide) rfl (fun r hc => mb_81_3 hM es hc)
    rw [← er2] at h es
    have er := qa_rl (qa_e rfl h)
    subst er
    have e0 : ma_106_3 N a1 a2 σ = (r2.1, r2.2) := by exact Eq.trans (if_pos c1) (Eq.trans (qa_ie er2) (rfl))
    rw [e0]
    exact ⟨rfl, hM, es⟩
  · replace h := qa_ift (q := 12) (qa_e rfl h) rfl (qa_T_ge c1)
    replace h := qa_iload (n := 1) (q := 13) (qa_e rfl h) rfl g1
    replace h := qa_push (z := (20 : Int32)) (q := 15) (qa_e rfl h) rfl (by decide)
    by_cases c3 : (20 : Int32) < a1
    · replace h := qa_iff (q := 18) (qa_e rfl h) rfl (qa_F_le c3)
      replace h := qa_aload (n := 0) (q := 19) (qa_e rfl h) rfl g0
      replace h := qa_push (z := (-6 : Int32)) (q := 21) (qa_e rfl h) rfl (by decide)
      obtain ⟨r4, er4⟩ : ∃ x, x = (ma_81_3 (-6 : Int32) σ) := ⟨_, rfl⟩
      obtain ⟨M, h, hM, es⟩ := qa_c1 (y := 81) (as := [.ref 3, .int ((-6 : Int32))]) (rest := []) (i := .invokevirtual 81) (q := 24) (qa_e rfl h) (Or.inl rfl) rfl rfl (by decide) rfl (fun r hc => mb_81_3 hM es hc)
      rw [← er4] at h es
      have er := qa_rl (qa_e rfl h)
      subst er
      have e0 : ma_106_3 N a1 a2 σ = (r4.1, r4.2) := by exact Eq.trans (if_neg c1) (Eq.trans (if_pos c3) (Eq.trans (qa_ie er4) (rfl)))
      rw [e0]
      exact ⟨rfl, hM, es⟩
    · replace h := qa_ift (q := 25) (qa_e rfl h) rfl (qa_T_le c3)
      replace h := qa_iload (n := 2) (q := 26) (qa_e rfl h) rfl g2
      obtain ⟨M, h, hM, es⟩ := qa_c1 (y := 57) (as := [.int (a2)]) (rest := []) (i := .invokestatic 57) (q := 29) (qa_e rfl h) (Or.inr rfl) rfl rfl (by decide) rfl (fun r hc => mb_57 hM es hc)
      by_cases c5 : (ma_57 a2) = (0 : Int32)
      · replace h := qa_icf (q := 32) (qa_e rfl h) rfl (qa_F_ne c5)
        replace h := qa_aload (n := 0) (q := 33) (qa_e rfl h) rfl g0
        replace h := qa_push (z := (-2 : Int32)) (q := 35) (qa_e rfl h) rfl (by decide)
        obtain ⟨r6, er6⟩ : ∃ x, x = (ma_81_3 (-2 : Int32) σ) := ⟨_, rfl⟩
        obtain ⟨M, h, hM, es⟩ := qa_c1 (y := 81) (as := [.ref 3, .int ((-2 : Int32))]) (rest := []) (i := .invokevirtual 81) (q := 38) (qa_e rfl h) (Or.inl rfl) rfl rfl (by decide) rfl (fun r hc => mb_81_3 hM es hc)
        rw [← er6] at h es
        have er := qa_rl (qa_e rfl h)
        subst er
        have e0 : ma_106_3 N a1 a2 σ = (r6.1, r6.2) := by exact Eq.trans (if_neg c1) (Eq.trans (if_neg c3) (Eq.trans (if_pos c5) (Eq.trans (qa_ie er6) (rfl))))
        rw [e0]
        exact ⟨rfl, hM, es⟩
      · replace h := qa_ict (q := 39) (qa_e rfl h) rfl (qa_T_ne c5)
        replace h := qa_aload (n := 0) (q := 40) (qa_e rfl h) rfl g0
        obtain ⟨m7, em7⟩ : ∃ x, x = (ma_58_3 N σ) := ⟨_, rfl⟩
        obtain ⟨M, h, hM, es⟩ := qa_c0 (y := 58) (as := [.ref 3]) (rest := []) (i := .invokevirtual 58) (q := 43) (qa_e rfl h) (Or.inl rfl) rfl rfl (by decide) rfl (fun r hc => mb_58_3 hN hM es hc)
        rw [← em7] at es
        replace h := qa_aload (n := 0) (q := 44) (qa_e rfl h) rfl g0
        replace h := qa_aload (n := 0) (q := 45) (qa_e rfl h) rfl g0
        obtain ⟨M, h, hM, es⟩ := qa_c1 (y := 60) (as := [.ref 3]) (rest := [.ref 3]) (i := .invokevirtual 60) (q := 48) (qa_e rfl h) (Or.inl rfl) rfl rfl (by decide) rfl (fun r hc => mb_60_3 hM es hc)
        obtain ⟨r8, er8⟩ : ∃ x, x = (ma_61_3 N (ma_60_3 m7) m7) := ⟨_, rfl⟩
        obtain ⟨M, h, hM, es⟩ := qa_c1 (y := 61) (as := [.ref 3, .int ((ma_60_3 m7))]) (rest := []) (i := .invokevirtual 61) (q := 51) (qa_e rfl h) (Or.inl rfl) rfl rfl (by decide) rfl (fun r hc => mb_61_3 hN hM es hc)
        rw [← er8] at h
        obtain ⟨lv, h, g, T⟩ := qa_istore (n := 3) (q := 52) (qa_e rfl h) rfl
        replace g0 := T _ _ g0 (by decide) (Or.inr rfl)
        replace g1 := T _ _ g1 (by decide) (Or.inr rfl)
        replace g2 := T _ _ g2 (by decide) (Or.inr rfl)
        have g3 := g
        clear g T
        replace h := qa_lpush (z := (0 : Int64)) (q := 53) (qa_e rfl h) rfl (by decide)
        obtain ⟨lv, h, g, T⟩ := qa_lstore (n := 4) (q := 55) (qa_e rfl h) rfl
        replace g0 := T _ _ g0 (by decide) (by decide) (Or.inr rfl)
        replace g1 := T _ _ g1 (by decide) (by decide) (Or.inr rfl)
        replace g2 := T _ _ g2 (by decide) (by decide) (Or.inr rfl)
        replace g3 := T _ _ g3 (by decide) (by decide) (Or.inr rfl)
        have g4 := g
        clear g T
        replace h := qa_push (z := (0 : Int32)) (q := 56) (qa_e rfl h) rfl (by decide)
        obtain ⟨lv, h, g, T⟩ := qa_istore (n := 6) (q := 58) (qa_e rfl h) rfl
        replace g0 := T _ _ g0 (by decide) (Or.inr rfl)
        replace g1 := T _ _ g1 (by decide) (Or.inr rfl)
        replace g2 := T _ _ g2 (by decide) (Or.inr rfl)
        replace g3 := T _ _ g3 (by decide) (Or.inr rfl)
        replace g4 := T _ _ g4 (by decide) (Or.inl (by decide))
        have g6 := g
        clear g T
        obtain ⟨r9, er9⟩ : ∃ x, x = (qa_wh (fun s => s) (mc_106_3_p58 N a1 a2 r8 m7) N ((0 : Int32), (0 : Int64))) := ⟨_, rfl⟩
        have L := md_106_3_p58 (l1 := a1) (l2 := a2) (l3 := r8) (σ := m7) (F := f) (N := N) (r := r) hN f N hN (Nat.le_refl f) ((0 : Int32), (0 : Int64)) _ _ hM es g0 g1 g2 g3 g4 g6 h
        rw [← er9] at L
        obtain ⟨lv, M, h, hM, es, g0, g1, g2, g4⟩ := L
        replace h := qa_lload (n := 4) (q := 102) (qa_e rfl h) rfl g4
        replace h := qa_iload (n := 1) (q := 103) (qa_e rfl h) rfl g1
        replace h := qa_i2l (q := 104) (qa_e rfl h) rfl
        replace h := qa_aload (n := 0) (q := 105) (qa_e rfl h) rfl g0
        replace h := qa_gr (b := 4) (j := 0) (q := 108) (qa_e rfl h) rfl hM rfl (by decide)
        replace h := qa_gi (j := 1) (q := 111) (qa_e rfl h) rfl hM es rfl (by decide)
        obtain ⟨r10, er10⟩ : ∃ x, x = (ma_107 N (a1).toInt64 (m7 4 1)) := ⟨_, rfl⟩
        obtain ⟨M, h, hM, es⟩ := qa_c1 (y := 107) (as := [.long ((a1).toInt64), .int ((m7 4 1))]) (rest := [.long (r9.2)]) (i := .invokestatic 107) (q := 114) (qa_e rfl h) (Or.inr rfl) rfl rfl (by decide) rfl (fun r hc => mb_107 hN hM es hc)
        rw [← er10] at h
        replace h := qa_iload (n := 2) (q := 115) (qa_e rfl h) rfl g2
        obtain ⟨r11, er11⟩ : ∃ x, x = (ma_83 N r9.2 r10 a2) := ⟨_, rfl⟩
        obtain ⟨M, h, hM, es⟩ := qa_c1 (y := 83) (as := [.long (r9.2), .long (r10), .int (a2)]) (rest := []) (i := .invokestatic 83) (q := 118) (qa_e rfl h) (Or.inr rfl) rfl rfl (by decide) rfl (fun r hc => mb_83 hN hM es hc)
        rw [← er11] at h
        have er := qa_rl (qa_e rfl h)
        subst er
        have e0 : ma_106_3 N a1 a2 σ = (r11, m7) := by exact Eq.trans (if_neg c1) (Eq.trans (if_neg c3) (Eq.trans (if_neg c5) (Eq.trans (qa_ie em7) (Eq.trans (qa_ie er8) (Eq.trans (qa_ie er9) (Eq.trans (qa_ie er10) (Eq.trans (qa_ie er11) (rfl))))))))
        rw [e0]
        exact ⟨rfl, hM, es⟩
noncomputable def mc_109_3_p18 (N : Nat) (σ : qa_S) (s : Int32) : (Int32) ⊕ ((Int32) ⊕ (Int32)) :=
  if s < (σ 3 16) then
    if (9 : Int32) < (σ 92 s.toNatClampNeg) then
      .inr (.inl (0 : Int32))
    else
      .inl (s + (1 : Int32))
  else
    .inr (.inr s)
theorem md_109_3_p18 {N F : Nat} {r : Option Value × q4_M} {σ : qa_S} (hN : F ≤ N) : ∀ f n, f ≤ n → f ≤ F → ∀ (s : Int32) (lv : List (Nat × Value)) (M : q4_M), qa_O M → qa_s M = σ → q4_get lv 0 = some (.ref 3) → q4_get lv 1 = some (.int (s)) → q4_run f 109 18 lv [] M 0 0 = some r → (∀ b, (qa_wh (fun s => .inr s) (mc_109_3_p18 N σ) n s) = .inl b → r.1 = some (.int (b)) ∧ qa_O r.2 ∧ qa_s r.2 = σ) ∧ (∀ b, (qa_wh (fun s => .inr s) (mc_109_3_p18 N σ) n s) = .inr b → ∃ lv M, q4_run F 109 45 lv [] M 0 0 = some r ∧ qa_O M ∧ qa_s M = σ) := by
  intro f
  induction f with
  | zero => intro n _ _ s lv M hM es _ _ h; cases h
  | succ f ih =>
    intro n hn hF s lv M hM es g0 g1 h
    obtain ⟨n, rfl⟩ : ∃ n1, n = n1 + 1 := ⟨n - 1, by omega⟩
    replace hn : f ≤ n := Nat.le_of_succ_le_succ hn
    have hN := Nat.le_trans (Nat.le_of_succ_le hF) hN
    replace h := qa_iload (n := 1) (q := 19) (qa_d rfl h) rfl g1
    replace h := qa_aload (n := 0) (q := 20) (qa_e rfl h) rfl g0
    replace h := qa_gi (j := 16) (q := 23) (qa_e rfl h) rfl hM es rfl (by decide)
    by_cases c1 : s < (σ 3 16)
    · replace h := qa_iff (q := 26) (qa_e rfl h) rfl (qa_F_ge c1)
      replace h := qa_aload (n := 0) (q := 27) (qa_e rfl h) rfl g0
      replace h := qa_gr (b := 92) (j := 9) (q := 30) (qa_e rfl h) rfl hM rfl (by decide)
      replace h := qa_iload (n := 1) (q := 31) (qa_e rfl h) rfl g1
      replace h := qa_iaload (jn := s.toNatClampNeg) (q := 32) (qa_e rfl h) rfl hM es rfl
      replace h := qa_push (z := (9 : Int32)) (q := 34) (qa_e rfl h) rfl (by decide)
      by_cases c2 : (9 : Int32) < (σ 92 s.toNatClampNeg)
      · replace h := qa_iff (q := 37) (qa_e rfl h) rfl (qa_F_le c2)
        replace h := qa_push (z := (0 : Int32)) (q := 38) (qa_e rfl h) rfl (by decide)
        have er := qa_ri (qa_e rfl h)
        subst er
        have e0 : mc_109_3_p18 N σ s = .inr (.inl (0 : Int32)) := by exact Eq.trans (if_pos c1) (Eq.trans (if_pos c2) (rfl))
        rw [qa_whr e0]
        exact ⟨fun b hb => (by have e := Sum.inl.inj hb; subst e; exact ⟨rfl, hM, es⟩), fun b hb => nomatch hb⟩
      · replace h := qa_ift (q := 39) (qa_e rfl h) rfl (qa_T_le c2)
        obtain ⟨lv, h, g, T⟩ := qa_iinc (n := 1) (z := (1 : Int32)) (q := 42) (qa_e rfl h) rfl (by decide) g1
        replace g0 := T _ _ g0 (by decide) (Or.inr rfl)
        replace g1 := g
        clear g T
        replace h := qa_goto (q := 18) (qa_e rfl h) rfl
        have e0 : mc_109_3_p18 N σ s = .inl (s + (1 : Int32)) := by exact Eq.trans (if_pos c1) (Eq.trans (if_neg c2) (rfl))
        rw [qa_whl e0]
        exact ih n hn (Nat.le_of_succ_le hF) (s + (1 : Int32)) _ _ hM es g0 g1 h
    · replace h := qa_ift (q := 45) (qa_e rfl h) rfl (qa_T_ge c1)
      have e0 : mc_109_3_p18 N σ s = .inr (.inr s) := by exact Eq.trans (if_neg c1) (rfl)
      rw [qa_whr e0]
      exact ⟨fun b hb => (nomatch hb), fun b hb => (by have e := Sum.inr.inj hb; subst e; exact ⟨_, _, q61_mono f F _ _ _ _ _ _ _ _ (Nat.le_of_succ_le hF) h, hM, es⟩)⟩
/-- BuriedBySevens, isRowOfShares, ()Z -/
noncomputable def ma_109_3 (N : Nat) (σ : qa_S) : Int32 :=
  if (σ 3 16) = (σ 4 0) then
    qa_in ((qa_wh (fun s => .inr s) (mc_109_3_p18 N σ) N (0 : Int32))) fun r2 =>
    qa_cs r2
      (fun b3 =>
        b3)
      (fun b3 =>
        (1 : Int32))
  else
    (0 : Int32)
theorem mb_109_3 {f N : Nat} (hN : f ≤ N) {M : q4_M} {r : Option Value × q4_M} {σ : qa_S} (hM : qa_O M) (es : qa_s M = σ) (h : q4_run f 109 0 (lv_args 0 [.ref 3]) [] M 0 0 = some r) : r.1 = some (.int ((ma_109_3 N σ))) ∧ qa_O r.2 ∧ qa_s r.2 = σ := by
  obtain ⟨lv, el⟩ : ∃ l, l = lv_args 0 [.ref 3] := ⟨_, rfl⟩
  have g0 : q4_get lv 0 = some (.ref 3) := by rw [el]; rfl
  rw [← el] at h
  clear el
  replace h := qa_aload (n := 0) (q := 1) (qa_e rfl h) rfl g0
  replace h := qa_gi (j := 16) (q := 4) (qa_e rfl h) rfl hM es rfl (by decide)
  replace h := qa_aload (n := 0) (q := 5) (qa_e rfl h) rfl g0
  replace h := qa_gr (b := 4) (j := 0) (q := 8) (qa_e rfl h) rfl hM rfl (by decide)
  replace h := qa_gi (j := 0) (q := 11) (qa_e rfl h) rfl hM es rfl (by decide)
  by_cases c1 : (σ 3 16) = (σ 4 0)
  · replace h := qa_ift (q := 16) (qa_e rfl h) rfl (qa_T_eq c1)
    replace h := qa_push (z := (0 : Int32)) (q := 17) (qa_e rfl h) rfl (by decide)
    obtain ⟨lv, h, g, T⟩ := qa_istore (n := 1) (q := 18) (qa_e rfl h) rfl
    replace g0 := T _ _ g0 (by decide) (Or.inr rfl)
    have g1 := g
    clear g T
    obtain ⟨r2, er2⟩ : ∃ x, x = (qa_wh (fun s => .inr s) (mc_109_3_p18 N σ) N (0 : Int32)) := ⟨_, rfl⟩
    have L := md_109_3_p18 (σ := σ) (F := f) (N := N) (r := r) hN f N hN (Nat.le_refl f) (0 : Int32) _ _ hM es g0 g1 h
    rw [← er2] at L
    rcases qr2 : r2 with b3 | b3
    · obtain ⟨h, hM, es⟩ := L.1 b3 qr2
      have e0 : ma_109_3 N σ = b3 := by exact Eq.trans (if_pos c1) (Eq.trans (qa_ie er2) (Eq.trans (qa_csl qr2 _ _) (rfl)))
      rw [e0]
      exact ⟨h, hM, es⟩
    · obtain ⟨lv, M, h, hM, es⟩ := L.2 b3 qr2
      replace h := qa_push (z := (1 : Int32)) (q := 46) (qa_e rfl h) rfl (by decide)
      have er := qa_ri (qa_e rfl h)
      subst er
      have e0 : ma_109_3 N σ = (1 : Int32) := by exact Eq.trans (if_pos c1) (Eq.trans (qa_ie er2) (Eq.trans (qa_csr qr2 _ _) (rfl)))
      rw [e0]
      exact ⟨rfl, hM, es⟩
  · replace h := qa_iff (q := 14) (qa_e rfl h) rfl (qa_F_eq c1)
    replace h := qa_push (z := (0 : Int32)) (q := 15) (qa_e rfl h) rfl (by decide)
    have er := qa_ri (qa_e rfl h)
    subst er
    have e0 : ma_109_3 N σ = (0 : Int32) := by exact Eq.trans (if_neg c1) (rfl)
    rw [e0]
    exact ⟨rfl, hM, es⟩
noncomputable def mc_108_3_p56 (N : Nat) (l1 : Int32) (σ : qa_S) (s : Int32 × Int32 × Int32) : (Int32 × Int32 × Int32) ⊕ (Int32 × Int32 × Int32) :=
  if s.1 < (σ 4 1) then
    qa_in ((ma_54_3 N s.1 94 95 σ)) fun r2 =>
    .inl ((s.1 + (1 : Int32)), (if r2 = (0 : Int32) then s.2.1 else (s.2.1 ||| ((1 : Int32) <<< (s.1 &&& 31)))), (s.2.2 ||| r2))
  else
    .inr (s.1, s.2.1, s.2.2)
theorem md_108_3_p56 {N F : Nat} {r : Option Value × q4_M} {l1 : Int32} {σ : qa_S} (hN : F ≤ N) : ∀ f n, f ≤ n → f ≤ F → ∀ (s : Int32 × Int32 × Int32) (lv : List (Nat × Value)) (M : q4_M), qa_O M → qa_s M = σ → q4_get lv 0 = some (.ref 3) → q4_get lv 1 = some (.int (l1)) → q4_get lv 2 = some (.int (s.2.1)) → q4_get lv 3 = some (.int (s.2.2)) → q4_get lv 4 = some (.int (s.1)) → q4_run f 108 56 lv [] M 0 0 = some r → ∃ lv M, q4_run F 108 107 lv [] M 0 0 = some r ∧ qa_O M ∧ qa_s M = σ ∧ q4_get lv 1 = some (.int (l1)) ∧ q4_get lv 2 = some (.int ((qa_wh (fun s => s) (mc_108_3_p56 N l1 σ) n s).2.1)) ∧ q4_get lv 3 = some (.int ((qa_wh (fun s => s) (mc_108_3_p56 N l1 σ) n s).2.2)) := by
  intro f
  induction f with
  | zero => intro n _ _ s lv M hM es _ _ _ _ _ h; cases h
  | succ f ih =>
    intro n hn hF s lv M hM es g0 g1 g2 g3 g4 h
    obtain ⟨n, rfl⟩ : ∃ n1, n = n1 + 1 := ⟨n - 1, by omega⟩
    replace hn : f ≤ n := Nat.le_of_succ_le_succ hn
    have hN := Nat.le_trans (Nat.le_of_succ_le hF) hN
    replace h := qa_iload (n := 4) (q := 58) (qa_d rfl h) rfl g4
    replace h := qa_aload (n := 0) (q := 59) (qa_e rfl h) rfl g0
    replace h := qa_gr (b := 4) (j := 0) (q := 62) (qa_e rfl h) rfl hM rfl (by decide)
    replace h := qa_gi (j := 1) (q := 65) (qa_e rfl h) rfl hM es rfl (by decide)
    by_cases c1 : s.1 < (σ 4 1)
    · replace h := qa_iff (q := 68) (qa_e rfl h) rfl (qa_F_ge c1)
      replace h := qa_aload (n := 0) (q := 69) (qa_e rfl h) rfl g0
      replace h := qa_iload (n := 4) (q := 71) (qa_e rfl h) rfl g4
      replace h := qa_aload (n := 0) (q := 72) (qa_e rfl h) rfl g0
      replace h := qa_gr (b := 94) (j := 11) (q := 75) (qa_e rfl h) rfl hM rfl (by decide)
      replace h := qa_aload (n := 0) (q := 76) (qa_e rfl h) rfl g0
      replace h := qa_gr (b := 95) (j := 12) (q := 79) (qa_e rfl h) rfl hM rfl (by decide)
      obtain ⟨r2, er2⟩ : ∃ x, x = (ma_54_3 N s.1 94 95 σ) := ⟨_, rfl⟩
      obtain ⟨M, h, hM, es⟩ := qa_c1 (y := 54) (as := [.ref 3, .int (s.1), .ref 94, .ref 95]) (rest := []) (i := .invokevirtual 54) (q := 82) (qa_e rfl h) (Or.inl rfl) rfl rfl (by decide) rfl (fun r hc => mb_54_3 hN hM es hc)
      rw [← er2] at h
      obtain ⟨lv, h, g, T⟩ := qa_istore (n := 5) (q := 84) (qa_e rfl h) rfl
      replace g0 := T _ _ g0 (by decide) (Or.inr rfl)
      replace g1 := T _ _ g1 (by decide) (Or.inr rfl)
      replace g2 := T _ _ g2 (by decide) (Or.inr rfl)
      replace g3 := T _ _ g3 (by decide) (Or.inr rfl)
      replace g4 := T _ _ g4 (by decide) (Or.inr rfl)
      have g5 := g
      clear g T
      replace h := qa_iload (n := 3) (q := 85) (qa_e rfl h) rfl g3
      replace h := qa_iload (n := 5) (q := 87) (qa_e rfl h) rfl g5
      replace h := qa_ior (q := 88) (qa_e rfl h) rfl
      obtain ⟨lv, h, g, T⟩ := qa_istore (n := 3) (q := 89) (qa_e rfl h) rfl
      replace g0 := T _ _ g0 (by decide) (Or.inr rfl)
      replace g1 := T _ _ g1 (by decide) (Or.inr rfl)
      replace g2 := T _ _ g2 (by decide) (Or.inr rfl)
      replace g4 := T _ _ g4 (by decide) (Or.inr rfl)
      replace g5 := T _ _ g5 (by decide) (Or.inr rfl)
      have g3 := g
      clear g T
      replace h := qa_iload (n := 5) (q := 91) (qa_e rfl h) rfl g5
      obtain ⟨lv, M, h, hM, es, g0, g1, g2, g3, g4⟩ : ∃ lv M, q4_run f 108 101 lv [] M 0 0 = some r ∧ qa_O M ∧ qa_s M = σ ∧ q4_get lv 0 = some (.ref 3) ∧ q4_get lv 1 = some (.int (l1)) ∧ q4_get lv 2 = some (.int ((if r2 = (0 : Int32) then s.2.1 else (s.2.1 ||| ((1 : Int32) <<< (s.1 &&& 31)))))) ∧ q4_get lv 3 = some (.int ((s.2.2 ||| r2))) ∧ q4_get lv 4 = some (.int (s.1)) := by
        by_cases c3 : r2 = (0 : Int32)
        · replace h := qa_ict (q := 101) (qa_e rfl h) rfl (qa_T_eq c3)
          exact ⟨lv, M, h, hM, es, g0, g1, (qa_gi1 c3 g2), g3, g4⟩
        · replace h := qa_icf (q := 94) (qa_e rfl h) rfl (qa_F_eq c3)
          replace h := qa_iload (n := 2) (q := 95) (qa_e rfl h) rfl g2
          replace h := qa_push (z := (1 : Int32)) (q := 96) (qa_e rfl h) rfl (by decide)
          replace h := qa_iload (n := 4) (q := 98) (qa_e rfl h) rfl g4
          replace h := qa_ishl (q := 99) (qa_e rfl h) rfl
          replace h := qa_ior (q := 100) (qa_e rfl h) rfl
          obtain ⟨lv, h, g, T⟩ := qa_istore (n := 2) (q := 101) (qa_e rfl h) rfl
          replace g0 := T _ _ g0 (by decide) (Or.inr rfl)
          replace g1 := T _ _ g1 (by decide) (Or.inr rfl)
          replace g3 := T _ _ g3 (by decide) (Or.inr rfl)
          replace g4 := T _ _ g4 (by decide) (Or.inr rfl)
          have g2 := g
          clear g T
          exact ⟨lv, M, h, hM, es, g0, g1, (qa_gi0 c3 g2), g3, g4⟩
      obtain ⟨lv, h, g, T⟩ := qa_iinc (n := 4) (z := (1 : Int32)) (q := 104) (qa_e rfl h) rfl (by decide) g4
      replace g0 := T _ _ g0 (by decide) (Or.inr rfl)
      replace g1 := T _ _ g1 (by decide) (Or.inr rfl)
      replace g2 := T _ _ g2 (by decide) (Or.inr rfl)
      replace g3 := T _ _ g3 (by decide) (Or.inr rfl)
      replace g4 := g
      clear g T
      replace h := qa_goto (q := 56) (qa_e rfl h) rfl
      have e0 : mc_108_3_p56 N l1 σ s = .inl ((s.1 + (1 : Int32)), (if r2 = (0 : Int32) then s.2.1 else (s.2.1 ||| ((1 : Int32) <<< (s.1 &&& 31)))), (s.2.2 ||| r2)) := by exact Eq.trans (if_pos c1) (Eq.trans (qa_ie er2) (rfl))
      rw [qa_whl e0]
      exact ih n hn (Nat.le_of_succ_le hF) ((s.1 + (1 : Int32)), (if r2 = (0 : Int32) then s.2.1 else (s.2.1 ||| ((1 : Int32) <<< (s.1 &&& 31)))), (s.2.2 ||| r2)) _ _ hM es g0 g1 g2 g3 g4 h
    · replace h := qa_ift (q := 107) (qa_e rfl h) rfl (qa_T_ge c1)
      have e0 : mc_108_3_p56 N l1 σ s = .inr (s.1, s.2.1, s.2.2) := by exact Eq.trans (if_neg c1) (rfl)
      rw [qa_whr e0]
      exact ⟨_, _, q61_mono f F _ _ _ _ _ _ _ _ (Nat.le_of_succ_le hF) h, hM, es, g1, g2, g3⟩
/-- BuriedBySevens, two, (I)I -/
noncomputable def ma_108_3 (N : Nat) (a1 : Int32) (σ : qa_S) : Int32 × qa_S :=
  if (ma_57 a1) = (0 : Int32) then
    qa_in ((ma_9_3 (-2 : Int32) σ)) fun r2 =>
    (r2.1, r2.2)
  else
    qa_in ((ma_109_3 N σ)) fun r3 =>
    if r3 = (0 : Int32) then
      qa_in ((ma_9_3 (-3 : Int32) σ)) fun r5 =>
      (r5.1, r5.2)
    else
      qa_in ((ma_46_3 N σ)) fun m6 =>
      qa_in ((ma_47_4 N 92 (-1 : Int32) (0 : Int32) 95 m6)) fun m7 =>
      qa_in ((qa_wh (fun s => s) (mc_108_3_p56 N a1 m7) N ((0 : Int32), (0 : Int32), (0 : Int32)))) fun r8 =>
      ((if a1 = (0 : Int32) then r8.2.1 else r8.2.2), m7)
theorem mb_108_3 {f N : Nat} (hN : f ≤ N) {M : q4_M} {r : Option Value × q4_M} {σ : qa_S} {a1 : Int32} (hM : qa_O M) (es : qa_s M = σ) (h : q4_run f 108 0 (lv_args 0 [.ref 3, .int (a1)]) [] M 0 0 = some r) : r.1 = some (.int ((ma_108_3 N a1 σ).1)) ∧ qa_O r.2 ∧ qa_s r.2 = (ma_108_3 N a1 σ).2 := by
  obtain ⟨lv, el⟩ : ∃ l, l = lv_args 0 [.ref 3, .int (a1)] := ⟨_, rfl⟩
  have g0 : q4_get lv 0 = some (.ref 3) := by rw [el]; rfl
  have g1 : q4_get lv 1 = some (.int (a1)) := by rw [el]; rfl
  rw [← el] at h
  clear el
  replace h := qa_iload (n := 1) (q := 1) (qa_e rfl h) rfl g1
  obtain ⟨M, h, hM, es⟩ := qa_c1 (y := 57) (as := [.int (a1)]) (rest := []) (i := .invokestatic 57) (q := 4) (qa_e rfl h) (Or.inr rfl) rfl rfl (by decide) rfl (fun r hc => mb_57 hM es hc)
  by_cases c1 : (ma_57 a1) = (0 : Int32)
  · replace h := qa_icf (q := 7) (qa_e rfl h) rfl (qa_F_ne c1)
    replace h := qa_aload (n := 0) (q := 8) (qa_e rfl h) rfl g0
    replace h := qa_push (z := (-2 : Int32)) (q := 10) (qa_e rfl h) rfl (by decide)
    obtain ⟨r2, er2⟩ : ∃ x, x = (ma_9_3 (-2 : Int32) σ) := ⟨_, rfl⟩
    obtain ⟨M, h, hM, es⟩ := qa_c1 (y := 9) (as := [.ref 3, .int ((-2 : Int32))]) (rest := []) (i := .invokevirtual 9) (q := 13) (qa_e rfl h) (Or.inl rfl) rfl rfl (by decide) rfl (fun r hc => mb_9_3 hM es hc)
    rw [← er2] at h es
    have er := qa_ri (qa_e rfl h)
    subst er
    have e0 : ma_108_3 N a1 σ = (r2.1, r2.2) := by exact Eq.trans (if_pos c1) (Eq.trans (qa_ie er2) (rfl))
    rw [e0]
    exact ⟨rfl, hM, es⟩
  · replace h := qa_ict (q := 14) (qa_e rfl h) rfl (qa_T_ne c1)
    replace h := qa_aload (n := 0) (q := 15) (qa_e rfl h) rfl g0
    obtain ⟨r3, er3⟩ : ∃ x, x = (ma_109_3 N σ) := ⟨_, rfl⟩
    obtain ⟨M, h, hM, es⟩ := qa_c1 (y := 109) (as := [.ref 3]) (rest := []) (i := .invokevirtual 109) (q := 18) (qa_e rfl h) (Or.inl rfl) rfl rfl (by decide) rfl (fun r hc => mb_109_3 hN hM es hc)
    rw [← er3] at h
    by_cases c4 : r3 = (0 : Int32)
    · replace h := qa_icf (q := 21) (qa_e rfl h) rfl (qa_F_ne c4)
      replace h := qa_aload (n := 0) (q := 22) (qa_e rfl h) rfl g0
      replace h := qa_push (z := (-3 : Int32)) (q := 24) (qa_e rfl h) rfl (by decide)
      obtain ⟨r5, er5⟩ : ∃ x, x = (ma_9_3 (-3 : Int32) σ) := ⟨_, rfl⟩
      obtain ⟨M, h, hM, es⟩ := qa_c1 (y := 9) (as := [.ref 3, .int ((-3 : Int32))]) (rest := []) (i := .invokevirtual 9) (q := 27) (qa_e rfl h) (Or.inl rfl) rfl rfl (by decide) rfl (fun r hc => mb_9_3 hM es hc)
      rw [← er5] at h es
      have er := qa_ri (qa_e rfl h)
      subst er
      have e0 : ma_108_3 N a1 σ = (r5.1, r5.2) := by exact Eq.trans (if_neg c1) (Eq.trans (qa_ie er3) (Eq.trans (if_pos c4) (Eq.trans (qa_ie er5) (rfl))))
      rw [e0]
      exact ⟨rfl, hM, es⟩
    · replace h := qa_ict (q := 28) (qa_e rfl h) rfl (qa_T_ne c4)
      replace h := qa_aload (n := 0) (q := 29) (qa_e rfl h) rfl g0
      obtain ⟨m6, em6⟩ : ∃ x, x = (ma_46_3 N σ) := ⟨_, rfl⟩
      obtain ⟨M, h, hM, es⟩ := qa_c0 (y := 46) (as := [.ref 3]) (rest := []) (i := .invokevirtual 46) (q := 32) (qa_e rfl h) (Or.inl rfl) rfl rfl (by decide) rfl (fun r hc => mb_46_3 hN hM es hc)
      rw [← em6] at es
      replace h := qa_aload (n := 0) (q := 33) (qa_e rfl h) rfl g0
      replace h := qa_gr (b := 4) (j := 0) (q := 36) (qa_e rfl h) rfl hM rfl (by decide)
      replace h := qa_aload (n := 0) (q := 37) (qa_e rfl h) rfl g0
      replace h := qa_gr (b := 92) (j := 9) (q := 40) (qa_e rfl h) rfl hM rfl (by decide)
      replace h := qa_push (z := (-1 : Int32)) (q := 41) (qa_e rfl h) rfl (by decide)
      replace h := qa_push (z := (0 : Int32)) (q := 42) (qa_e rfl h) rfl (by decide)
      replace h := qa_aload (n := 0) (q := 43) (qa_e rfl h) rfl g0
      replace h := qa_gr (b := 95) (j := 12) (q := 46) (qa_e rfl h) rfl hM rfl (by decide)
      obtain ⟨m7, em7⟩ : ∃ x, x = (ma_47_4 N 92 (-1 : Int32) (0 : Int32) 95 m6) := ⟨_, rfl⟩
      obtain ⟨M, h, hM, es⟩ := qa_c0 (y := 47) (as := [.ref 4, .ref 92, .int ((-1 : Int32)), .int ((0 : Int32)), .ref 95]) (rest := []) (i := .invokevirtual 47) (q := 49) (qa_e rfl h) (Or.inl rfl) rfl rfl (by decide) rfl (fun r hc => mb_47_4 hN hM es hc)
      rw [← em7] at es
      replace h := qa_push (z := (0 : Int32)) (q := 50) (qa_e rfl h) rfl (by decide)
      obtain ⟨lv, h, g, T⟩ := qa_istore (n := 2) (q := 51) (qa_e rfl h) rfl
      replace g0 := T _ _ g0 (by decide) (Or.inr rfl)
      replace g1 := T _ _ g1 (by decide) (Or.inr rfl)
      have g2 := g
      clear g T
      replace h := qa_push (z := (0 : Int32)) (q := 52) (qa_e rfl h) rfl (by decide)
      obtain ⟨lv, h, g, T⟩ := qa_istore (n := 3) (q := 53) (qa_e rfl h) rfl
      replace g0 := T _ _ g0 (by decide) (Or.inr rfl)
      replace g1 := T _ _ g1 (by decide) (Or.inr rfl)
      replace g2 := T _ _ g2 (by decide) (Or.inr rfl)
      have g3 := g
      clear g T
      replace h := qa_push (z := (0 : Int32)) (q := 54) (qa_e rfl h) rfl (by decide)
      obtain ⟨lv, h, g, T⟩ := qa_istore (n := 4) (q := 56) (qa_e rfl h) rfl
      replace g0 := T _ _ g0 (by decide) (Or.inr rfl)
      replace g1 := T _ _ g1 (by decide) (Or.inr rfl)
      replace g2 := T _ _ g2 (by decide) (Or.inr rfl)
      replace g3 := T _ _ g3 (by decide) (Or.inr rfl)
      have g4 := g
      clear g T
      obtain ⟨r8, er8⟩ : ∃ x, x = (qa_wh (fun s => s) (mc_108_3_p56 N a1 m7) N ((0 : Int32), (0 : Int32), (0 : Int32))) := ⟨_, rfl⟩
      have L := md_108_3_p56 (l1 := a1) (σ := m7) (F := f) (N := N) (r := r) hN f N hN (Nat.le_refl f) ((0 : Int32), (0 : Int32), (0 : Int32)) _ _ hM es g0 g1 g2 g3 g4 h
      rw [← er8] at L
      obtain ⟨lv, M, h, hM, es, g1, g2, g3⟩ := L
      replace h := qa_iload (n := 1) (q := 108) (qa_e rfl h) rfl g1
      obtain ⟨lv, M, h, hM, es⟩ : ∃ lv M, q4_run f 108 116 lv [.int ((if a1 = (0 : Int32) then r8.2.1 else r8.2.2))] M 0 0 = some r ∧ qa_O M ∧ qa_s M = m7 := by
        by_cases c9 : a1 = (0 : Int32)
        · replace h := qa_icf (q := 111) (qa_e rfl h) rfl (qa_F_ne c9)
          replace h := qa_iload (n := 2) (q := 112) (qa_e rfl h) rfl g2
          replace h := qa_goto (q := 116) (qa_e rfl h) rfl
          exact ⟨lv, M, (qa_hi1 c9 h), hM, es⟩
        · replace h := qa_ict (q := 115) (qa_e rfl h) rfl (qa_T_ne c9)
          replace h := qa_iload (n := 3) (q := 116) (qa_e rfl h) rfl g3
          exact ⟨lv, M, (qa_hi0 c9 h), hM, es⟩
      have er := qa_ri (qa_e rfl h)
      subst er
      have e0 : ma_108_3 N a1 σ = ((if a1 = (0 : Int32) then r8.2.1 else r8.2.2), m7) := by exact Eq.trans (if_neg c1) (Eq.trans (qa_ie er3) (Eq.trans (if_neg c4) (Eq.trans (qa_ie em6) (Eq.trans (qa_ie em7) (Eq.trans (qa_ie er8) (rfl))))))
      rw [e0]
      exact ⟨rfl, hM, es⟩
noncomputable def mc_110_3_p52 (N : Nat) (l1 : Int32) (l2 : Int32) (σ : qa_S) (s : Int32) : (Int32) ⊕ ((Int32) ⊕ (Int32)) :=
  if s < (4 : Int32) then
    if l2 = (0 : Int32) then
      if (if (ma_48 (σ 24 l1.toNatClampNeg) s) = (0 : Int32) then (0 : Int32) else (if (σ 92 s.toNatClampNeg) = (ma_50 (σ 94 s.toNatClampNeg) (σ 25 l1.toNatClampNeg)) then (0 : Int32) else (1 : Int32))) = (0 : Int32) then
        .inl (s + (1 : Int32))
      else
        .inr (.inl s)
    else
      if (if (ma_48 (σ 24 l1.toNatClampNeg) s) = (0 : Int32) then (if (σ 92 s.toNatClampNeg) = (0 : Int32) then (0 : Int32) else (1 : Int32)) else (0 : Int32)) = (0 : Int32) then
        .inl (s + (1 : Int32))
      else
        .inr (.inl s)
  else
    .inr (.inr s)
theorem md_110_3_p52 {N F : Nat} {r : Option Value × q4_M} {l1 : Int32} {l2 : Int32} {σ : qa_S} (hN : F ≤ N) : ∀ f n, f ≤ n → f ≤ F → ∀ (s : Int32) (lv : List (Nat × Value)) (M : q4_M), qa_O M → qa_s M = σ → q4_get lv 0 = some (.ref 3) → q4_get lv 1 = some (.int (l1)) → q4_get lv 2 = some (.int (l2)) → q4_get lv 3 = some (.int (s)) → q4_run f 110 52 lv [] M 0 0 = some r → (∀ b, (qa_wh (fun s => .inr s) (mc_110_3_p52 N l1 l2 σ) n s) = .inl b → r.1 = some (.int (b)) ∧ qa_O r.2 ∧ qa_s r.2 = σ) ∧ (∀ b, (qa_wh (fun s => .inr s) (mc_110_3_p52 N l1 l2 σ) n s) = .inr b → ∃ lv M, q4_run F 110 157 lv [] M 0 0 = some r ∧ qa_O M ∧ qa_s M = σ) := by
  intro f
  induction f with
  | zero => intro n _ _ s lv M hM es _ _ _ _ h; cases h
  | succ f ih =>
    intro n hn hF s lv M hM es g0 g1 g2 g3 h
    obtain ⟨n, rfl⟩ : ∃ n1, n = n1 + 1 := ⟨n - 1, by omega⟩
    replace hn : f ≤ n := Nat.le_of_succ_le_succ hn
    have hN := Nat.le_trans (Nat.le_of_succ_le hF) hN
    replace h := qa_iload (n := 3) (q := 53) (qa_d rfl h) rfl g3
    replace h := qa_push (z := (4 : Int32)) (q := 54) (qa_e rfl h) rfl (by decide)
    by_cases c1 : s < (4 : Int32)
    · replace h := qa_iff (q := 57) (qa_e rfl h) rfl (qa_F_ge c1)
      replace h := qa_aload (n := 0) (q := 58) (qa_e rfl h) rfl g0
      replace h := qa_gr (b := 4) (j := 0) (q := 61) (qa_e rfl h) rfl hM rfl (by decide)
      replace h := qa_gr (b := 24) (j := 7) (q := 64) (qa_e rfl h) rfl hM rfl (by decide)
      replace h := qa_iload (n := 1) (q := 65) (qa_e rfl h) rfl g1
      replace h := qa_iaload (jn := l1.toNatClampNeg) (q := 66) (qa_e rfl h) rfl hM es rfl
      replace h := qa_iload (n := 3) (q := 67) (qa_e rfl h) rfl g3
      obtain ⟨M, h, hM, es⟩ := qa_c1 (y := 48) (as := [.int ((σ 24 l1.toNatClampNeg)), .int (s)]) (rest := []) (i := .invokestatic 48) (q := 70) (qa_e rfl h) (Or.inr rfl) rfl rfl (by decide) rfl (fun r hc => mb_48 hM es hc)
      obtain ⟨lv, h, g, T⟩ := qa_istore (n := 4) (q := 72) (qa_e rfl h) rfl
      replace g0 := T _ _ g0 (by decide) (Or.inr rfl)
      replace g1 := T _ _ g1 (by decide) (Or.inr rfl)
      replace g2 := T _ _ g2 (by decide) (Or.inr rfl)
      replace g3 := T _ _ g3 (by decide) (Or.inr rfl)
      have g4 := g
      clear g T
      replace h := qa_iload (n := 4) (q := 74) (qa_e rfl h) rfl g4
      obtain ⟨lv, M, h, hM, es, g0, g1, g2, g3, g4⟩ : ∃ lv M, q4_run f 110 109 lv [.int ((if (ma_48 (σ 24 l1.toNatClampNeg) s) = (0 : Int32) then (0 : Int32) else (if (σ 92 s.toNatClampNeg) = (ma_50 (σ 94 s.toNatClampNeg) (σ 25 l1.toNatClampNeg)) then (0 : Int32) else (1 : Int32))))] M 0 0 = some r ∧ qa_O M ∧ qa_s M = σ ∧ q4_get lv 0 = some (.ref 3) ∧ q4_get lv 1 = some (.int (l1)) ∧ q4_get lv 2 = some (.int (l2)) ∧ q4_get lv 3 = some (.int (s)) ∧ q4_get lv 4 = some (.int ((ma_48 (σ 24 l1.toNatClampNeg) s))) := by
        by_cases c2 : (ma_48 (σ 24 l1.toNatClampNeg) s) = (0 : Int32)
        · replace h := qa_ict (q := 108) (qa_e rfl h) rfl (qa_T_eq c2)
          replace h := qa_push (z := (0 : Int32)) (q := 109) (qa_e rfl h) rfl (by decide)
          exact ⟨lv, M, (qa_hi1 c2 h), hM, es, g0, g1, g2, g3, g4⟩
        · replace h := qa_icf (q := 77) (qa_e rfl h) rfl (qa_F_eq c2)
          replace h := qa_aload (n := 0) (q := 78) (qa_e rfl h) rfl g0
          replace h := qa_gr (b := 92) (j := 9) (q := 81) (qa_e rfl h) rfl hM rfl (by decide)
          replace h := qa_iload (n := 3) (q := 82) (qa_e rfl h) rfl g3
          replace h := qa_iaload (jn := s.toNatClampNeg) (q := 83) (qa_e rfl h) rfl hM es rfl
          replace h := qa_aload (n := 0) (q := 84) (qa_e rfl h) rfl g0
          replace h := qa_gr (b := 94) (j := 11) (q := 87) (qa_e rfl h) rfl hM rfl (by decide)
          replace h := qa_iload (n := 3) (q := 88) (qa_e rfl h) rfl g3
          replace h := qa_iaload (jn := s.toNatClampNeg) (q := 89) (qa_e rfl h) rfl hM es rfl
          replace h := qa_aload (n := 0) (q := 90) (qa_e rfl h) rfl g0
          replace h := qa_gr (b := 4) (j := 0) (q := 93) (qa_e rfl h) rfl hM rfl (by decide)
          replace h := qa_gr (b := 25) (j := 8) (q := 96) (qa_e rfl h) rfl hM rfl (by decide)
          replace h := qa_iload (n := 1) (q := 97) (qa_e rfl h) rfl g1
          replace h := qa_iaload (jn := l1.toNatClampNeg) (q := 98) (qa_e rfl h) rfl hM es rfl
          obtain ⟨M, h, hM, es⟩ := qa_c1 (y := 50) (as := [.int ((σ 94 s.toNatClampNeg)), .int ((σ 25 l1.toNatClampNeg))]) (rest := [.int ((σ 92 s.toNatClampNeg))]) (i := .invokestatic 50) (q := 101) (qa_e rfl h) (Or.inr rfl) rfl rfl (by decide) rfl (fun r hc => mb_50 hM es hc)
          obtain ⟨lv, M, h, hM, es, g0, g1, g2, g3, g4⟩ : ∃ lv M, q4_run f 110 109 lv [.int ((if (σ 92 s.toNatClampNeg) = (ma_50 (σ 94 s.toNatClampNeg) (σ 25 l1.toNatClampNeg)) then (0 : Int32) else (1 : Int32)))] M 0 0 = some r ∧ qa_O M ∧ qa_s M = σ ∧ q4_get lv 0 = some (.ref 3) ∧ q4_get lv 1 = some (.int (l1)) ∧ q4_get lv 2 = some (.int (l2)) ∧ q4_get lv 3 = some (.int (s)) ∧ q4_get lv 4 = some (.int ((ma_48 (σ 24 l1.toNatClampNeg) s))) := by
            by_cases c3 : (σ 92 s.toNatClampNeg) = (ma_50 (σ 94 s.toNatClampNeg) (σ 25 l1.toNatClampNeg))
            · replace h := qa_ift (q := 108) (qa_e rfl h) rfl (qa_T_eq c3)
              replace h := qa_push (z := (0 : Int32)) (q := 109) (qa_e rfl h) rfl (by decide)
              exact ⟨lv, M, (qa_hi1 c3 h), hM, es, g0, g1, g2, g3, g4⟩
            · replace h := qa_iff (q := 104) (qa_e rfl h) rfl (qa_F_eq c3)
              replace h := qa_push (z := (1 : Int32)) (q := 105) (qa_e rfl h) rfl (by decide)
              replace h := qa_goto (q := 109) (qa_e rfl h) rfl
              exact ⟨lv, M, (qa_hi0 c3 h), hM, es, g0, g1, g2, g3, g4⟩
          exact ⟨lv, M, (qa_hi0 c2 h), hM, es, g0, g1, g2, g3, g4⟩
      obtain ⟨lv, h, g, T⟩ := qa_istore (n := 5) (q := 111) (qa_e rfl h) rfl
      replace g0 := T _ _ g0 (by decide) (Or.inr rfl)
      replace g1 := T _ _ g1 (by decide) (Or.inr rfl)
      replace g2 := T _ _ g2 (by decide) (Or.inr rfl)
      replace g3 := T _ _ g3 (by decide) (Or.inr rfl)
      replace g4 := T _ _ g4 (by decide) (Or.inr rfl)
      have g5 := g
      clear g T
      replace h := qa_iload (n := 4) (q := 113) (qa_e rfl h) rfl g4
      obtain ⟨lv, M, h, hM, es, g0, g1, g2, g3, g5⟩ : ∃ lv M, q4_run f 110 130 lv [.int ((if (ma_48 (σ 24 l1.toNatClampNeg) s) = (0 : Int32) then (if (σ 92 s.toNatClampNeg) = (0 : Int32) then (0 : Int32) else (1 : Int32)) else (0 : Int32)))] M 0 0 = some r ∧ qa_O M ∧ qa_s M = σ ∧ q4_get lv 0 = some (.ref 3) ∧ q4_get lv 1 = some (.int (l1)) ∧ q4_get lv 2 = some (.int (l2)) ∧ q4_get lv 3 = some (.int (s)) ∧ q4_get lv 5 = some (.int ((if (ma_48 (σ 24 l1.toNatClampNeg) s) = (0 : Int32) then (0 : Int32) else (if (σ 92 s.toNatClampNeg) = (ma_50 (σ 94 s.toNatClampNeg) (σ 25 l1.toNatClampNeg)) then (0 : Int32) else (1 : Int32))))) := by
        by_cases c4 : (ma_48 (σ 24 l1.toNatClampNeg) s) = (0 : Int32)
        · replace h := qa_icf (q := 116) (qa_e rfl h) rfl (qa_F_ne c4)
          replace h := qa_aload (n := 0) (q := 117) (qa_e rfl h) rfl g0
          replace h := qa_gr (b := 92) (j := 9) (q := 120) (qa_e rfl h) rfl hM rfl (by decide)
          replace h := qa_iload (n := 3) (q := 121) (qa_e rfl h) rfl g3
          replace h := qa_iaload (jn := s.toNatClampNeg) (q := 122) (qa_e rfl h) rfl hM es rfl
          obtain ⟨lv, M, h, hM, es, g0, g1, g2, g3, g5⟩ : ∃ lv M, q4_run f 110 130 lv [.int ((if (σ 92 s.toNatClampNeg) = (0 : Int32) then (0 : Int32) else (1 : Int32)))] M 0 0 = some r ∧ qa_O M ∧ qa_s M = σ ∧ q4_get lv 0 = some (.ref 3) ∧ q4_get lv 1 = some (.int (l1)) ∧ q4_get lv 2 = some (.int (l2)) ∧ q4_get lv 3 = some (.int (s)) ∧ q4_get lv 5 = some (.int ((if (ma_48 (σ 24 l1.toNatClampNeg) s) = (0 : Int32) then (0 : Int32) else (if (σ 92 s.toNatClampNeg) = (ma_50 (σ 94 s.toNatClampNeg) (σ 25 l1.toNatClampNeg)) then (0 : Int32) else (1 : Int32))))) := by
            by_cases c5 : (σ 92 s.toNatClampNeg) = (0 : Int32)
            · replace h := qa_ict (q := 129) (qa_e rfl h) rfl (qa_T_eq c5)
              replace h := qa_push (z := (0 : Int32)) (q := 130) (qa_e rfl h) rfl (by decide)
              exact ⟨lv, M, (qa_hi1 c5 h), hM, es, g0, g1, g2, g3, g5⟩
            · replace h := qa_icf (q := 125) (qa_e rfl h) rfl (qa_F_eq c5)
              replace h := qa_push (z := (1 : Int32)) (q := 126) (qa_e rfl h) rfl (by decide)
              replace h := qa_goto (q := 130) (qa_e rfl h) rfl
              exact ⟨lv, M, (qa_hi0 c5 h), hM, es, g0, g1, g2, g3, g5⟩
          exact ⟨lv, M, (qa_hi1 c4 h), hM, es, g0, g1, g2, g3, g5⟩
        · replace h := qa_ict (q := 129) (qa_e rfl h) rfl (qa_T_ne c4)
          replace h := qa_push (z := (0 : Int32)) (q := 130) (qa_e rfl h) rfl (by decide)
          exact ⟨lv, M, (qa_hi0 c4 h), hM, es, g0, g1, g2, g3, g5⟩
      obtain ⟨lv, h, g, T⟩ := qa_istore (n := 6) (q := 132) (qa_e rfl h) rfl
      replace g0 := T _ _ g0 (by decide) (Or.inr rfl)
      replace g1 := T _ _ g1 (by decide) (Or.inr rfl)
      replace g2 := T _ _ g2 (by decide) (Or.inr rfl)
      replace g3 := T _ _ g3 (by decide) (Or.inr rfl)
      replace g5 := T _ _ g5 (by decide) (Or.inr rfl)
      have g6 := g
      clear g T
      replace h := qa_iload (n := 2) (q := 133) (qa_e rfl h) rfl g2
      by_cases c6 : l2 = (0 : Int32)
      · replace h := qa_icf (q := 136) (qa_e rfl h) rfl (qa_F_ne c6)
        replace h := qa_iload (n := 5) (q := 138) (qa_e rfl h) rfl g5
        by_cases c7 : (if (ma_48 (σ 24 l1.toNatClampNeg) s) = (0 : Int32) then (0 : Int32) else (if (σ 92 s.toNatClampNeg) = (ma_50 (σ 94 s.toNatClampNeg) (σ 25 l1.toNatClampNeg)) then (0 : Int32) else (1 : Int32))) = (0 : Int32)
        · replace h := qa_ict (q := 151) (qa_e rfl h) rfl (qa_T_eq c7)
          obtain ⟨lv, h, g, T⟩ := qa_iinc (n := 3) (z := (1 : Int32)) (q := 154) (qa_e rfl h) rfl (by decide) g3
          replace g0 := T _ _ g0 (by decide) (Or.inr rfl)
          replace g1 := T _ _ g1 (by decide) (Or.inr rfl)
          replace g2 := T _ _ g2 (by decide) (Or.inr rfl)
          replace g3 := g
          clear g T
          replace h := qa_goto (q := 52) (qa_e rfl h) rfl
          have e0 : mc_110_3_p52 N l1 l2 σ s = .inl (s + (1 : Int32)) := by exact Eq.trans (if_pos c1) (Eq.trans (if_pos c6) (Eq.trans (if_pos c7) (rfl)))
          rw [qa_whl e0]
          exact ih n hn (Nat.le_of_succ_le hF) (s + (1 : Int32)) _ _ hM es g0 g1 g2 g3 h
        · replace h := qa_icf (q := 141) (qa_e rfl h) rfl (qa_F_eq c7)
          replace h := qa_goto (q := 149) (qa_e rfl h) rfl
          replace h := qa_iload (n := 3) (q := 150) (qa_e rfl h) rfl g3
          have er := qa_ri (qa_e rfl h)
          subst er
          have e0 : mc_110_3_p52 N l1 l2 σ s = .inr (.inl s) := by exact Eq.trans (if_pos c1) (Eq.trans (if_pos c6) (Eq.trans (if_neg c7) (rfl)))
          rw [qa_whr e0]
          exact ⟨fun b hb => (by have e := Sum.inl.inj hb; subst e; exact ⟨rfl, hM, es⟩), fun b hb => nomatch hb⟩
      · replace h := qa_ict (q := 144) (qa_e rfl h) rfl (qa_T_ne c6)
        replace h := qa_iload (n := 6) (q := 146) (qa_e rfl h) rfl g6
        by_cases c8 : (if (ma_48 (σ 24 l1.toNatClampNeg) s) = (0 : Int32) then (if (σ 92 s.toNatClampNeg) = (0 : Int32) then (0 : Int32) else (1 : Int32)) else (0 : Int32)) = (0 : Int32)
        · replace h := qa_ict (q := 151) (qa_e rfl h) rfl (qa_T_eq c8)
          obtain ⟨lv, h, g, T⟩ := qa_iinc (n := 3) (z := (1 : Int32)) (q := 154) (qa_e rfl h) rfl (by decide) g3
          replace g0 := T _ _ g0 (by decide) (Or.inr rfl)
          replace g1 := T _ _ g1 (by decide) (Or.inr rfl)
          replace g2 := T _ _ g2 (by decide) (Or.inr rfl)
          replace g3 := g
          clear g T
          replace h := qa_goto (q := 52) (qa_e rfl h) rfl
          have e0 : mc_110_3_p52 N l1 l2 σ s = .inl (s + (1 : Int32)) := by exact Eq.trans (if_pos c1) (Eq.trans (if_neg c6) (Eq.trans (if_pos c8) (rfl)))
          rw [qa_whl e0]
          exact ih n hn (Nat.le_of_succ_le hF) (s + (1 : Int32)) _ _ hM es g0 g1 g2 g3 h
        · replace h := qa_icf (q := 149) (qa_e rfl h) rfl (qa_F_eq c8)
          replace h := qa_iload (n := 3) (q := 150) (qa_e rfl h) rfl g3
          have er := qa_ri (qa_e rfl h)
          subst er
          have e0 : mc_110_3_p52 N l1 l2 σ s = .inr (.inl s) := by exact Eq.trans (if_pos c1) (Eq.trans (if_neg c6) (Eq.trans (if_neg c8) (rfl)))
          rw [qa_whr e0]
          exact ⟨fun b hb => (by have e := Sum.inl.inj hb; subst e; exact ⟨rfl, hM, es⟩), fun b hb => nomatch hb⟩
    · replace h := qa_ift (q := 157) (qa_e rfl h) rfl (qa_T_ge c1)
      have e0 : mc_110_3_p52 N l1 l2 σ s = .inr (.inr s) := by exact Eq.trans (if_neg c1) (rfl)
      rw [qa_whr e0]
      exact ⟨fun b hb => (nomatch hb), fun b hb => (by have e := Sum.inr.inj hb; subst e; exact ⟨_, _, q61_mono f F _ _ _ _ _ _ _ _ (Nat.le_of_succ_le hF) h, hM, es⟩)⟩
/-- BuriedBySevens, impostor, (II)I -/
noncomputable def ma_110_3 (N : Nat) (a1 : Int32) (a2 : Int32) (σ : qa_S) : Int32 × qa_S :=
  if (ma_33_4 a1 σ) = (0 : Int32) then
    qa_in ((ma_9_3 (-1 : Int32) σ)) fun r2 =>
    (r2.1, r2.2)
  else
    if (ma_57 a2) = (0 : Int32) then
      qa_in ((ma_9_3 (-2 : Int32) σ)) fun r4 =>
      (r4.1, r4.2)
    else
      if (σ 3 16) = (4 : Int32) then
        qa_in ((ma_46_3 N σ)) fun m6 =>
        qa_in ((qa_wh (fun s => .inr s) (mc_110_3_p52 N a1 a2 m6) N (0 : Int32))) fun r7 =>
        qa_cs r7
          (fun b8 =>
            (b8, m6))
          (fun b8 =>
            ((-9 : Int32), m6))
      else
        qa_in ((ma_9_3 (-3 : Int32) σ)) fun r9 =>
        (r9.1, r9.2)
theorem mb_110_3 {f N : Nat} (hN : f ≤ N) {M : q4_M} {r : Option Value × q4_M} {σ : qa_S} {a1 : Int32} {a2 : Int32} (hM : qa_O M) (es : qa_s M = σ) (h : q4_run f 110 0 (lv_args 0 [.ref 3, .int (a1), .int (a2)]) [] M 0 0 = some r) : r.1 = some (.int ((ma_110_3 N a1 a2 σ).1)) ∧ qa_O r.2 ∧ qa_s r.2 = (ma_110_3 N a1 a2 σ).2 := by
  obtain ⟨lv, el⟩ : ∃ l, l = lv_args 0 [.ref 3, .int (a1), .int (a2)] := ⟨_, rfl⟩
  have g0 : q4_get lv 0 = some (.ref 3) := by rw [el]; rfl
  have g1 : q4_get lv 1 = some (.int (a1)) := by rw [el]; rfl
  have g2 : q4_get lv 2 = some (.int (a2)) := by rw [el]; rfl
  rw [← el] at h
  clear el
  replace h := qa_aload (n := 0) (q := 1) (qa_e rfl h) rfl g0
  replace h := qa_gr (b := 4) (j := 0) (q := 4) (qa_e rfl h) rfl hM rfl (by decide)
  replace h := qa_iload (n := 1) (q := 5) (qa_e rfl h) rfl g1
  obtain ⟨M, h, hM, es⟩ := qa_c1 (y := 33) (as := [.ref 4, .int (a1)]) (rest := []) (i := .invokevirtual 33) (q := 8) (qa_e rfl h) (Or.inl rfl) rfl rfl (by decide) rfl (fun r hc => mb_33_4 hM es hc)
  by_cases c1 : (ma_33_4 a1 σ) = (0 : Int32)
  · replace h := qa_icf (q := 11) (qa_e rfl h) rfl (qa_F_ne c1)
    replace h := qa_aload (n := 0) (q := 12) (qa_e rfl h) rfl g0
    replace h := qa_push (z := (-1 : Int32)) (q := 13) (qa_e rfl h) rfl (by decide)
    obtain ⟨r2, er2⟩ : ∃ x, x = (ma_9_3 (-1 : Int32) σ) := ⟨_, rfl⟩
    obtain ⟨M, h, hM, es⟩ := qa_c1 (y := 9) (as := [.ref 3, .int ((-1 : Int32))]) (rest := []) (i := .invokevirtual 9) (q := 16) (qa_e rfl h) (Or.inl rfl) rfl rfl (by decide) rfl (fun r hc => mb_9_3 hM es hc)
    rw [← er2] at h es
    have er := qa_ri (qa_e rfl h)
    subst er
    have e0 : ma_110_3 N a1 a2 σ = (r2.1, r2.2) := by exact Eq.trans (if_pos c1) (Eq.trans (qa_ie er2) (rfl))
    rw [e0]
    exact ⟨rfl, hM, es⟩
  · replace h := qa_ict (q := 17) (qa_e rfl h) rfl (qa_T_ne c1)
    replace h := qa_iload (n := 2) (q := 18) (qa_e rfl h) rfl g2
    obtain ⟨M, h, hM, es⟩ := qa_c1 (y := 57) (as := [.int (a2)]) (rest := []) (i := .invokestatic 57) (q := 21) (qa_e rfl h) (Or.inr rfl) rfl rfl (by decide) rfl (fun r hc => mb_57 hM es hc)
    by_cases c3 : (ma_57 a2) = (0 : Int32)
    · replace h := qa_icf (q := 24) (qa_e rfl h) rfl (qa_F_ne c3)
      replace h := qa_aload (n := 0) (q := 25) (qa_e rfl h) rfl g0
      replace h := qa_push (z := (-2 : Int32)) (q := 27) (qa_e rfl h) rfl (by decide)
      obtain ⟨r4, er4⟩ : ∃ x, x = (ma_9_3 (-2 : Int32) σ) := ⟨_, rfl⟩
      obtain ⟨M, h, hM, es⟩ := qa_c1 (y := 9) (as := [.ref 3, .int ((-2 : Int32))]) (rest := []) (i := .invokevirtual 9) (q := 30) (qa_e rfl h) (Or.inl rfl) rfl rfl (by decide) rfl (fun r hc => mb_9_3 hM es hc)
      rw [← er4] at h es
      have er := qa_ri (qa_e rfl h)
      subst er
      have e0 : ma_110_3 N a1 a2 σ = (r4.1, r4.2) := by exact Eq.trans (if_neg c1) (Eq.trans (if_pos c3) (Eq.trans (qa_ie er4) (rfl)))
      rw [e0]
      exact ⟨rfl, hM, es⟩
    · replace h := qa_ict (q := 31) (qa_e rfl h) rfl (qa_T_ne c3)
      replace h := qa_aload (n := 0) (q := 32) (qa_e rfl h) rfl g0
      replace h := qa_gi (j := 16) (q := 35) (qa_e rfl h) rfl hM es rfl (by decide)
      replace h := qa_push (z := (4 : Int32)) (q := 36) (qa_e rfl h) rfl (by decide)
      by_cases c5 : (σ 3 16) = (4 : Int32)
      · replace h := qa_ift (q := 46) (qa_e rfl h) rfl (qa_T_eq c5)
        replace h := qa_aload (n := 0) (q := 47) (qa_e rfl h) rfl g0
        obtain ⟨m6, em6⟩ : ∃ x, x = (ma_46_3 N σ) := ⟨_, rfl⟩
        obtain ⟨M, h, hM, es⟩ := qa_c0 (y := 46) (as := [.ref 3]) (rest := []) (i := .invokevirtual 46) (q := 50) (qa_e rfl h) (Or.inl rfl) rfl rfl (by decide) rfl (fun r hc => mb_46_3 hN hM es hc)
        rw [← em6] at es
        replace h := qa_push (z := (0 : Int32)) (q := 51) (qa_e rfl h) rfl (by decide)
        obtain ⟨lv, h, g, T⟩ := qa_istore (n := 3) (q := 52) (qa_e rfl h) rfl
        replace g0 := T _ _ g0 (by decide) (Or.inr rfl)
        replace g1 := T _ _ g1 (by decide) (Or.inr rfl)
        replace g2 := T _ _ g2 (by decide) (Or.inr rfl)
        have g3 := g
        clear g T
        obtain ⟨r7, er7⟩ : ∃ x, x = (qa_wh (fun s => .inr s) (mc_110_3_p52 N a1 a2 m6) N (0 : Int32)) := ⟨_, rfl⟩
        have L := md_110_3_p52 (l1 := a1) (l2 := a2) (σ := m6) (F := f) (N := N) (r := r) hN f N hN (Nat.le_refl f) (0 : Int32) _ _ hM es g0 g1 g2 g3 h
        rw [← er7] at L
        rcases qr7 : r7 with b8 | b8
        · obtain ⟨h, hM, es⟩ := L.1 b8 qr7
          have e0 : ma_110_3 N a1 a2 σ = (b8, m6) := by exact Eq.trans (if_neg c1) (Eq.trans (if_neg c3) (Eq.trans (if_pos c5) (Eq.trans (qa_ie em6) (Eq.trans (qa_ie er7) (Eq.trans (qa_csl qr7 _ _) (rfl))))))
          rw [e0]
          exact ⟨h, hM, es⟩
        · obtain ⟨lv, M, h, hM, es⟩ := L.2 b8 qr7
          replace h := qa_push (z := (-9 : Int32)) (q := 159) (qa_e rfl h) rfl (by decide)
          have er := qa_ri (qa_e rfl h)
          subst er
          have e0 : ma_110_3 N a1 a2 σ = ((-9 : Int32), m6) := by exact Eq.trans (if_neg c1) (Eq.trans (if_neg c3) (Eq.trans (if_pos c5) (Eq.trans (qa_ie em6) (Eq.trans (qa_ie er7) (Eq.trans (qa_csr qr7 _ _) (rfl))))))
          rw [e0]
          exact ⟨rfl, hM, es⟩
      · replace h := qa_iff (q := 39) (qa_e rfl h) rfl (qa_F_eq c5)
        replace h := qa_aload (n := 0) (q := 40) (qa_e rfl h) rfl g0
        replace h := qa_push (z := (-3 : Int32)) (q := 42) (qa_e rfl h) rfl (by decide)
        obtain ⟨r9, er9⟩ : ∃ x, x = (ma_9_3 (-3 : Int32) σ) := ⟨_, rfl⟩
        obtain ⟨M, h, hM, es⟩ := qa_c1 (y := 9) (as := [.ref 3, .int ((-3 : Int32))]) (rest := []) (i := .invokevirtual 9) (q := 45) (qa_e rfl h) (Or.inl rfl) rfl rfl (by decide) rfl (fun r hc => mb_9_3 hM es hc)
        rw [← er9] at h es
        have er := qa_ri (qa_e rfl h)
        subst er
        have e0 : ma_110_3 N a1 a2 σ = (r9.1, r9.2) := by exact Eq.trans (if_neg c1) (Eq.trans (if_neg c3) (Eq.trans (if_neg c5) (Eq.trans (qa_ie er9) (rfl))))
        rw [e0]
        exact ⟨rfl, hM, es⟩
/-- java/lang/Math, abs, (I)I -/
noncomputable def ma_113 (a0 : Int32) : Int32 :=
  (if a0 < (0 : Int32) then (-a0) else a0)
theorem mb_113 {f : Nat} {M : q4_M} {r : Option Value × q4_M} {σ : qa_S} {a0 : Int32} (hM : qa_O M) (es : qa_s M = σ) (h : q4_run f 113 0 (lv_args 0 [.int (a0)]) [] M 0 0 = some r) : r.1 = some (.int ((ma_113 a0))) ∧ qa_O r.2 ∧ qa_s r.2 = σ := by
  obtain ⟨lv, el⟩ : ∃ l, l = lv_args 0 [.int (a0)] := ⟨_, rfl⟩
  have g0 : q4_get lv 0 = some (.int (a0)) := by rw [el]; rfl
  rw [← el] at h
  clear el
  replace h := qa_iload (n := 0) (q := 1) (qa_e rfl h) rfl g0
  obtain ⟨lv, M, h, hM, es⟩ : ∃ lv M, q4_run f 113 10 lv [.int ((if a0 < (0 : Int32) then (-a0) else a0))] M 0 0 = some r ∧ qa_O M ∧ qa_s M = σ := by
    by_cases c1 : a0 < (0 : Int32)
    · replace h := qa_icf (q := 4) (qa_e rfl h) rfl (qa_F_ge c1)
      replace h := qa_iload (n := 0) (q := 5) (qa_e rfl h) rfl g0
      replace h := qa_ineg (q := 6) (qa_e rfl h) rfl
      replace h := qa_goto (q := 10) (qa_e rfl h) rfl
      exact ⟨lv, M, (qa_hi1 c1 h), hM, es⟩
    · replace h := qa_ict (q := 9) (qa_e rfl h) rfl (qa_T_ge c1)
      replace h := qa_iload (n := 0) (q := 10) (qa_e rfl h) rfl g0
      exact ⟨lv, M, (qa_hi0 c1 h), hM, es⟩
  have er := qa_ri (qa_e rfl h)
  subst er
  have e0 : ma_113 a0 = (if a0 < (0 : Int32) then (-a0) else a0) := by exact rfl
  rw [e0]
  exact ⟨rfl, hM, es⟩
noncomputable def mc_112_4_p5 (N : Nat) (l1 : Int32) (l2 : Int32) (σ : qa_S) (s : Int32 × Int32) : (Int32 × Int32) ⊕ (Int32 × Int32) :=
  if s.1 < (4 : Int32) then
    .inl ((s.1 + (1 : Int32)), (s.2 + (ma_113 ((σ (17 + l1.toNatClampNeg) s.1.toNatClampNeg) - (σ (17 + l2.toNatClampNeg) s.1.toNatClampNeg)))))
  else
    .inr (s.1, s.2)
theorem md_112_4_p5 {N F : Nat} {r : Option Value × q4_M} {l1 : Int32} {l2 : Int32} {σ : qa_S} (hN : F ≤ N) : ∀ f n, f ≤ n → f ≤ F → ∀ (s : Int32 × Int32) (lv : List (Nat × Value)) (M : q4_M), qa_O M → qa_s M = σ → q4_get lv 0 = some (.ref 4) → q4_get lv 1 = some (.int (l1)) → q4_get lv 2 = some (.int (l2)) → q4_get lv 3 = some (.int (s.2)) → q4_get lv 4 = some (.int (s.1)) → q4_run f 112 5 lv [] M 0 0 = some r → ∃ lv M, q4_run F 112 42 lv [] M 0 0 = some r ∧ qa_O M ∧ qa_s M = σ ∧ q4_get lv 3 = some (.int ((qa_wh (fun s => s) (mc_112_4_p5 N l1 l2 σ) n s).2)) := by
  intro f
  induction f with
  | zero => intro n _ _ s lv M hM es _ _ _ _ _ h; cases h
  | succ f ih =>
    intro n hn hF s lv M hM es g0 g1 g2 g3 g4 h
    obtain ⟨n, rfl⟩ : ∃ n1, n = n1 + 1 := ⟨n - 1, by omega⟩
    replace hn : f ≤ n := Nat.le_of_succ_le_succ hn
    have hN := Nat.le_trans (Nat.le_of_succ_le hF) hN
    replace h := qa_iload (n := 4) (q := 7) (qa_d rfl h) rfl g4
    replace h := qa_push (z := (4 : Int32)) (q := 8) (qa_e rfl h) rfl (by decide)
    by_cases c1 : s.1 < (4 : Int32)
    · replace h := qa_iff (q := 11) (qa_e rfl h) rfl (qa_F_ge c1)
      replace h := qa_iload (n := 3) (q := 12) (qa_e rfl h) rfl g3
      replace h := qa_aload (n := 0) (q := 13) (qa_e rfl h) rfl g0
      replace h := qa_gr (b := 16) (j := 6) (q := 16) (qa_e rfl h) rfl hM rfl (by decide)
      replace h := qa_iload (n := 1) (q := 17) (qa_e rfl h) rfl g1
      replace h := qa_aaload (b := 17) (jn := l1.toNatClampNeg) (q := 18) (qa_e rfl h) rfl hM rfl (by decide) (by decide +kernel)
      replace h := qa_iload (n := 4) (q := 20) (qa_e rfl h) rfl g4
      replace h := qa_iaload (jn := s.1.toNatClampNeg) (q := 21) (qa_e rfl h) rfl hM es rfl
      replace h := qa_aload (n := 0) (q := 22) (qa_e rfl h) rfl g0
      replace h := qa_gr (b := 16) (j := 6) (q := 25) (qa_e rfl h) rfl hM rfl (by decide)
      replace h := qa_iload (n := 2) (q := 26) (qa_e rfl h) rfl g2
      replace h := qa_aaload (b := 17) (jn := l2.toNatClampNeg) (q := 27) (qa_e rfl h) rfl hM rfl (by decide) (by decide +kernel)
      replace h := qa_iload (n := 4) (q := 29) (qa_e rfl h) rfl g4
      replace h := qa_iaload (jn := s.1.toNatClampNeg) (q := 30) (qa_e rfl h) rfl hM es rfl
      replace h := qa_isub (q := 31) (qa_e rfl h) rfl
      obtain ⟨M, h, hM, es⟩ := qa_c1 (y := 113) (as := [.int (((σ (17 + l1.toNatClampNeg) s.1.toNatClampNeg) - (σ (17 + l2.toNatClampNeg) s.1.toNatClampNeg)))]) (rest := [.int (s.2)]) (i := .invokestatic 113) (q := 34) (qa_e rfl h) (Or.inr rfl) rfl rfl (by decide) rfl (fun r hc => mb_113 hM es hc)
      replace h := qa_iadd (q := 35) (qa_e rfl h) rfl
      obtain ⟨lv, h, g, T⟩ := qa_istore (n := 3) (q := 36) (qa_e rfl h) rfl
      replace g0 := T _ _ g0 (by decide) (Or.inr rfl)
      replace g1 := T _ _ g1 (by decide) (Or.inr rfl)
      replace g2 := T _ _ g2 (by decide) (Or.inr rfl)
      replace g4 := T _ _ g4 (by decide) (Or.inr rfl)
      have g3 := g
      clear g T
      obtain ⟨lv, h, g, T⟩ := qa_iinc (n := 4) (z := (1 : Int32)) (q := 39) (qa_e rfl h) rfl (by decide) g4
      replace g0 := T _ _ g0 (by decide) (Or.inr rfl)
      replace g1 := T _ _ g1 (by decide) (Or.inr rfl)
      replace g2 := T _ _ g2 (by decide) (Or.inr rfl)
      replace g3 := T _ _ g3 (by decide) (Or.inr rfl)
      replace g4 := g
      clear g T
      replace h := qa_goto (q := 5) (qa_e rfl h) rfl
      have e0 : mc_112_4_p5 N l1 l2 σ s = .inl ((s.1 + (1 : Int32)), (s.2 + (ma_113 ((σ (17 + l1.toNatClampNeg) s.1.toNatClampNeg) - (σ (17 + l2.toNatClampNeg) s.1.toNatClampNeg))))) := by exact Eq.trans (if_pos c1) (rfl)
      rw [qa_whl e0]
      exact ih n hn (Nat.le_of_succ_le hF) ((s.1 + (1 : Int32)), (s.2 + (ma_113 ((σ (17 + l1.toNatClampNeg) s.1.toNatClampNeg) - (σ (17 + l2.toNatClampNeg) s.1.toNatClampNeg))))) _ _ hM es g0 g1 g2 g3 g4 h
    · replace h := qa_ift (q := 42) (qa_e rfl h) rfl (qa_T_ge c1)
      have e0 : mc_112_4_p5 N l1 l2 σ s = .inr (s.1, s.2) := by exact Eq.trans (if_neg c1) (rfl)
      rw [qa_whr e0]
      exact ⟨_, _, q61_mono f F _ _ _ _ _ _ _ _ (Nat.le_of_succ_le hF) h, hM, es, g3⟩
