noncomputable def mc_149_4_p14 (N : Nat) (l2 : Int32) (σ : qa_S) (s : Int32 × Int32) : (Int32 × Int32) ⊕ (Int32 × Int32) :=
  if s.1 < (4 : Int32) then
    .inl ((s.1 + (1 : Int32)), (s.2 + (σ (9 + l2.toNatClampNeg) s.1.toNatClampNeg)))
  else
    .inr (s.1, s.2)
theorem md_149_4_p14 {N F : Nat} {r : Option Value × q4_M} {l2 : Int32} {σ : qa_S} (hN : F ≤ N) : ∀ f n, f ≤ n → f ≤ F → ∀ (s : Int32 × Int32) (lv : List (Nat × Value)) (M : q4_M), qa_O M → qa_s M = σ → q4_get lv 0 = some (.ref 4) → q4_get lv 1 = some (.int (s.2)) → q4_get lv 2 = some (.int (l2)) → q4_get lv 3 = some (.int (s.1)) → q4_run f 149 14 lv [] M 0 0 = some r → ∃ lv M, q4_run F 149 36 lv [] M 0 0 = some r ∧ qa_O M ∧ qa_s M = σ ∧ q4_get lv 0 = some (.ref 4) ∧ q4_get lv 1 = some (.int ((qa_wh (fun s => s) (mc_149_4_p14 N l2 σ) n s).2)) ∧ q4_get lv 2 = some (.int (l2)) := by
  intro f
  induction f with
  | zero => intro n _ _ s lv M hM es _ _ _ _ h; cases h
  | succ f ih =>
    intro n hn hF s lv M hM es g0 g1 g2 g3 h
    obtain ⟨n, rfl⟩ : ∃ n1, n = n1 + 1 := ⟨n - 1, by omega⟩
    replace hn : f ≤ n := Nat.le_of_succ_le_succ hn
    have hN := Nat.le_trans (Nat.le_of_succ_le hF) hN
    replace h := qa_iload (n := 3) (q := 15) (qa_d rfl h) rfl g3
    replace h := qa_push (z := (4 : Int32)) (q := 16) (qa_e rfl h) rfl (by decide)
    by_cases c1 : s.1 < (4 : Int32)
    · replace h := qa_iff (q := 19) (qa_e rfl h) rfl (qa_F_ge c1)
      replace h := qa_iload (n := 1) (q := 20) (qa_e rfl h) rfl g1
      replace h := qa_aload (n := 0) (q := 21) (qa_e rfl h) rfl g0
      replace h := qa_gr (b := 8) (j := 5) (q := 24) (qa_e rfl h) rfl hM rfl (by decide)
      replace h := qa_iload (n := 2) (q := 25) (qa_e rfl h) rfl g2
      replace h := qa_aaload (b := 9) (jn := l2.toNatClampNeg) (q := 26) (qa_e rfl h) rfl hM rfl (by decide) (by decide +kernel)
      replace h := qa_iload (n := 3) (q := 27) (qa_e rfl h) rfl g3
      replace h := qa_iaload (jn := s.1.toNatClampNeg) (q := 28) (qa_e rfl h) rfl hM es rfl
      replace h := qa_iadd (q := 29) (qa_e rfl h) rfl
      obtain ⟨lv, h, g, T⟩ := qa_istore (n := 1) (q := 30) (qa_e rfl h) rfl
      replace g0 := T _ _ g0 (by decide) (Or.inr rfl)
      replace g2 := T _ _ g2 (by decide) (Or.inr rfl)
      replace g3 := T _ _ g3 (by decide) (Or.inr rfl)
      have g1 := g
      clear g T
      obtain ⟨lv, h, g, T⟩ := qa_iinc (n := 3) (z := (1 : Int32)) (q := 33) (qa_e rfl h) rfl (by decide) g3
      replace g0 := T _ _ g0 (by decide) (Or.inr rfl)
      replace g1 := T _ _ g1 (by decide) (Or.inr rfl)
      replace g2 := T _ _ g2 (by decide) (Or.inr rfl)
      replace g3 := g
      clear g T
      replace h := qa_goto (q := 14) (qa_e rfl h) rfl
      have e0 : mc_149_4_p14 N l2 σ s = .inl ((s.1 + (1 : Int32)), (s.2 + (σ (9 + l2.toNatClampNeg) s.1.toNatClampNeg))) := by exact Eq.trans (if_pos c1) (rfl)
      rw [qa_whl e0]
      exact ih n hn (Nat.le_of_succ_le hF) ((s.1 + (1 : Int32)), (s.2 + (σ (9 + l2.toNatClampNeg) s.1.toNatClampNeg))) _ _ hM es g0 g1 g2 g3 h
    · replace h := qa_ift (q := 36) (qa_e rfl h) rfl (qa_T_ge c1)
      have e0 : mc_149_4_p14 N l2 σ s = .inr (s.1, s.2) := by exact Eq.trans (if_neg c1) (rfl)
      rw [qa_whr e0]
      exact ⟨_, _, q61_mono f F _ _ _ _ _ _ _ _ (Nat.le_of_succ_le hF) h, hM, es, g0, g1, g2⟩
noncomputable def mc_149_4_p4 (N : Nat) (σ : qa_S) (s : Int32 × Int32) : (Int32 × Int32) ⊕ (Int32 × Int32) :=
  if s.1 < (σ 4 0) then
    qa_in ((qa_wh (fun s => s) (mc_149_4_p14 N s.1 σ) N ((0 : Int32), s.2))) fun r2 =>
    .inl ((s.1 + (1 : Int32)), r2.2)
  else
    .inr (s.1, s.2)
theorem md_149_4_p4 {N F : Nat} {r : Option Value × q4_M} {σ : qa_S} (hN : F ≤ N) : ∀ f n, f ≤ n → f ≤ F → ∀ (s : Int32 × Int32) (lv : List (Nat × Value)) (M : q4_M), qa_O M → qa_s M = σ → q4_get lv 0 = some (.ref 4) → q4_get lv 1 = some (.int (s.2)) → q4_get lv 2 = some (.int (s.1)) → q4_run f 149 4 lv [] M 0 0 = some r → ∃ lv M, q4_run F 149 42 lv [] M 0 0 = some r ∧ qa_O M ∧ qa_s M = σ ∧ q4_get lv 1 = some (.int ((qa_wh (fun s => s) (mc_149_4_p4 N σ) n s).2)) := by
  intro f
  induction f with
  | zero => intro n _ _ s lv M hM es _ _ _ h; cases h
  | succ f ih =>
    intro n hn hF s lv M hM es g0 g1 g2 h
    obtain ⟨n, rfl⟩ : ∃ n1, n = n1 + 1 := ⟨n - 1, by omega⟩
    replace hn : f ≤ n := Nat.le_of_succ_le_succ hn
    have hN := Nat.le_trans (Nat.le_of_succ_le hF) hN
    replace h := qa_iload (n := 2) (q := 5) (qa_d rfl h) rfl g2
    replace h := qa_aload (n := 0) (q := 6) (qa_e rfl h) rfl g0
    replace h := qa_gi (j := 0) (q := 9) (qa_e rfl h) rfl hM es rfl (by decide)
    by_cases c1 : s.1 < (σ 4 0)
    · replace h := qa_iff (q := 12) (qa_e rfl h) rfl (qa_F_ge c1)
      replace h := qa_push (z := (0 : Int32)) (q := 13) (qa_e rfl h) rfl (by decide)
      obtain ⟨lv, h, g, T⟩ := qa_istore (n := 3) (q := 14) (qa_e rfl h) rfl
      replace g0 := T _ _ g0 (by decide) (Or.inr rfl)
      replace g1 := T _ _ g1 (by decide) (Or.inr rfl)
      replace g2 := T _ _ g2 (by decide) (Or.inr rfl)
      have g3 := g
      clear g T
      obtain ⟨r2, er2⟩ : ∃ x, x = (qa_wh (fun s => s) (mc_149_4_p14 N s.1 σ) N ((0 : Int32), s.2)) := ⟨_, rfl⟩
      have L := md_149_4_p14 (l2 := s.1) (σ := σ) (F := f) (N := N) (r := r) hN f N hN (Nat.le_refl f) ((0 : Int32), s.2) _ _ hM es g0 g1 g2 g3 h
      rw [← er2] at L
      obtain ⟨lv, M, h, hM, es, g0, g1, g2⟩ := L
      obtain ⟨lv, h, g, T⟩ := qa_iinc (n := 2) (z := (1 : Int32)) (q := 39) (qa_e rfl h) rfl (by decide) g2
      replace g0 := T _ _ g0 (by decide) (Or.inr rfl)
      replace g1 := T _ _ g1 (by decide) (Or.inr rfl)
      replace g2 := g
      clear g T
      replace h := qa_goto (q := 4) (qa_e rfl h) rfl
      have e0 : mc_149_4_p4 N σ s = .inl ((s.1 + (1 : Int32)), r2.2) := by exact Eq.trans (if_pos c1) (Eq.trans (qa_ie er2) (rfl))
      rw [qa_whl e0]
      exact ih n hn (Nat.le_of_succ_le hF) ((s.1 + (1 : Int32)), r2.2) _ _ hM es g0 g1 g2 h
    · replace h := qa_ift (q := 42) (qa_e rfl h) rfl (qa_T_ge c1)
      have e0 : mc_149_4_p4 N σ s = .inr (s.1, s.2) := by exact Eq.trans (if_neg c1) (rfl)
      rw [qa_whr e0]
      exact ⟨_, _, q61_mono f F _ _ _ _ _ _ _ _ (Nat.le_of_succ_le hF) h, hM, es, g1⟩
/-- BuriedBySevens$Cellar, allMarks, ()I -/
noncomputable def ma_149_4 (N : Nat) (σ : qa_S) : Int32 :=
  qa_in ((qa_wh (fun s => s) (mc_149_4_p4 N σ) N ((0 : Int32), (0 : Int32)))) fun r1 =>
  r1.2
theorem mb_149_4 {f N : Nat} (hN : f ≤ N) {M : q4_M} {r : Option Value × q4_M} {σ : qa_S} (hM : qa_O M) (es : qa_s M = σ) (h : q4_run f 149 0 (lv_args 0 [.ref 4]) [] M 0 0 = some r) : r.1 = some (.int ((ma_149_4 N σ))) ∧ qa_O r.2 ∧ qa_s r.2 = σ := by
  obtain ⟨lv, el⟩ : ∃ l, l = lv_args 0 [.ref 4] := ⟨_, rfl⟩
  have g0 : q4_get lv 0 = some (.ref 4) := by rw [el]; rfl
  rw [← el] at h
  clear el
  replace h := qa_push (z := (0 : Int32)) (q := 1) (qa_e rfl h) rfl (by decide)
  obtain ⟨lv, h, g, T⟩ := qa_istore (n := 1) (q := 2) (qa_e rfl h) rfl
  replace g0 := T _ _ g0 (by decide) (Or.inr rfl)
  have g1 := g
  clear g T
  replace h := qa_push (z := (0 : Int32)) (q := 3) (qa_e rfl h) rfl (by decide)
  obtain ⟨lv, h, g, T⟩ := qa_istore (n := 2) (q := 4) (qa_e rfl h) rfl
  replace g0 := T _ _ g0 (by decide) (Or.inr rfl)
  replace g1 := T _ _ g1 (by decide) (Or.inr rfl)
  have g2 := g
  clear g T
  obtain ⟨r1, er1⟩ : ∃ x, x = (qa_wh (fun s => s) (mc_149_4_p4 N σ) N ((0 : Int32), (0 : Int32))) := ⟨_, rfl⟩
  have L := md_149_4_p4 (σ := σ) (F := f) (N := N) (r := r) hN f N hN (Nat.le_refl f) ((0 : Int32), (0 : Int32)) _ _ hM es g0 g1 g2 h
  rw [← er1] at L
  obtain ⟨lv, M, h, hM, es, g1⟩ := L
  replace h := qa_iload (n := 1) (q := 43) (qa_e rfl h) rfl g1
  have er := qa_ri (qa_e rfl h)
  subst er
  have e0 : ma_149_4 N σ = r1.2 := by exact Eq.trans (qa_ie er1) (rfl)
  rw [e0]
  exact ⟨rfl, hM, es⟩
/-- BuriedBySevens, count, (I)I -/
noncomputable def ma_147_3 (N : Nat) (a1 : Int32) (σ : qa_S) : Int32 :=
  if a1 = (0 : Int32) then
    (σ 4 0)
  else
    if a1 = (1 : Int32) then
      (σ 4 1)
    else
      if a1 = (2 : Int32) then
        qa_in ((ma_148_4 N σ)) fun r8 =>
        r8
      else
        if a1 = (3 : Int32) then
          qa_in ((ma_149_4 N σ)) fun r9 =>
          r9
        else
          if a1 = (4 : Int32) then
            (σ 83 0)
          else
            if a1 = (5 : Int32) then
              (σ 3 16)
            else
              if a1 = (6 : Int32) then
                (σ 85 0)
              else
                (if a1 < (11 : Int32) then (-9 : Int32) else (if (16 : Int32) < a1 then (-9 : Int32) else (σ 93 (a1 - (10 : Int32)).toNatClampNeg)))
theorem mb_147_3 {f N : Nat} (hN : f ≤ N) {M : q4_M} {r : Option Value × q4_M} {σ : qa_S} {a1 : Int32} (hM : qa_O M) (es : qa_s M = σ) (h : q4_run f 147 0 (lv_args 0 [.ref 3, .int (a1)]) [] M 0 0 = some r) : r.1 = some (.int ((ma_147_3 N a1 σ))) ∧ qa_O r.2 ∧ qa_s r.2 = σ := by
  obtain ⟨lv, el⟩ : ∃ l, l = lv_args 0 [.ref 3, .int (a1)] := ⟨_, rfl⟩
  have g0 : q4_get lv 0 = some (.ref 3) := by rw [el]; rfl
  have g1 : q4_get lv 1 = some (.int (a1)) := by rw [el]; rfl
  rw [← el] at h
  clear el
  replace h := qa_iload (n := 1) (q := 1) (qa_e rfl h) rfl g1
  by_cases c1 : a1 = (0 : Int32)
  · replace h := qa_ts (v := 0) (T := 44) (q := 44) (qa_e rfl h) (qa_sp c1 (by decide)).symm (by decide) rfl rfl
    replace h := qa_aload (n := 0) (q := 45) (qa_e rfl h) rfl g0
    replace h := qa_gr (b := 4) (j := 0) (q := 48) (qa_e rfl h) rfl hM rfl (by decide)
    replace h := qa_gi (j := 0) (q := 51) (qa_e rfl h) rfl hM es rfl (by decide)
    have er := qa_ri (qa_e rfl h)
    subst er
    have e0 : ma_147_3 N a1 σ = (σ 4 0) := by exact Eq.trans (if_pos c1) (rfl)
    rw [e0]
    exact ⟨rfl, hM, es⟩
  · by_cases c2 : a1 = (1 : Int32)
    · replace h := qa_ts (v := 1) (T := 52) (q := 52) (qa_e rfl h) (qa_sp c2 (by decide)).symm (by decide) rfl rfl
      replace h := qa_aload (n := 0) (q := 53) (qa_e rfl h) rfl g0
      replace h := qa_gr (b := 4) (j := 0) (q := 56) (qa_e rfl h) rfl hM rfl (by decide)
      replace h := qa_gi (j := 1) (q := 59) (qa_e rfl h) rfl hM es rfl (by decide)
      have er := qa_ri (qa_e rfl h)
      subst er
      have e0 : ma_147_3 N a1 σ = (σ 4 1) := by exact Eq.trans (if_neg c1) (Eq.trans (if_pos c2) (rfl))
      rw [e0]
      exact ⟨rfl, hM, es⟩
    · by_cases c3 : a1 = (2 : Int32)
      · replace h := qa_ts (v := 2) (T := 60) (q := 60) (qa_e rfl h) (qa_sp c3 (by decide)).symm (by decide) rfl rfl
        replace h := qa_aload (n := 0) (q := 61) (qa_e rfl h) rfl g0
        replace h := qa_gr (b := 4) (j := 0) (q := 64) (qa_e rfl h) rfl hM rfl (by decide)
        obtain ⟨r8, er8⟩ : ∃ x, x = (ma_148_4 N σ) := ⟨_, rfl⟩
        obtain ⟨M, h, hM, es⟩ := qa_c1 (y := 148) (as := [.ref 4]) (rest := []) (i := .invokevirtual 148) (q := 67) (qa_e rfl h) (Or.inl rfl) rfl rfl (by decide) rfl (fun r hc => mb_148_4 hN hM es hc)
        rw [← er8] at h
        have er := qa_ri (qa_e rfl h)
        subst er
        have e0 : ma_147_3 N a1 σ = r8 := by exact Eq.trans (if_neg c1) (Eq.trans (if_neg c2) (Eq.trans (if_pos c3) (Eq.trans (qa_ie er8) (rfl))))
        rw [e0]
        exact ⟨rfl, hM, es⟩
      · by_cases c4 : a1 = (3 : Int32)
        · replace h := qa_ts (v := 3) (T := 68) (q := 68) (qa_e rfl h) (qa_sp c4 (by decide)).symm (by decide) rfl rfl
          replace h := qa_aload (n := 0) (q := 69) (qa_e rfl h) rfl g0
          replace h := qa_gr (b := 4) (j := 0) (q := 72) (qa_e rfl h) rfl hM rfl (by decide)
          obtain ⟨r9, er9⟩ : ∃ x, x = (ma_149_4 N σ) := ⟨_, rfl⟩
          obtain ⟨M, h, hM, es⟩ := qa_c1 (y := 149) (as := [.ref 4]) (rest := []) (i := .invokevirtual 149) (q := 75) (qa_e rfl h) (Or.inl rfl) rfl rfl (by decide) rfl (fun r hc => mb_149_4 hN hM es hc)
          rw [← er9] at h
          have er := qa_ri (qa_e rfl h)
          subst er
          have e0 : ma_147_3 N a1 σ = r9 := by exact Eq.trans (if_neg c1) (Eq.trans (if_neg c2) (Eq.trans (if_neg c3) (Eq.trans (if_pos c4) (Eq.trans (qa_ie er9) (rfl)))))
          rw [e0]
          exact ⟨rfl, hM, es⟩
        · by_cases c5 : a1 = (4 : Int32)
          · replace h := qa_ts (v := 4) (T := 76) (q := 76) (qa_e rfl h) (qa_sp c5 (by decide)).symm (by decide) rfl rfl
            replace h := qa_aload (n := 0) (q := 77) (qa_e rfl h) rfl g0
            replace h := qa_gr (b := 83) (j := 5) (q := 80) (qa_e rfl h) rfl hM rfl (by decide)
            replace h := qa_gi (j := 0) (q := 83) (qa_e rfl h) rfl hM es rfl (by decide)
            have er := qa_ri (qa_e rfl h)
            subst er
            have e0 : ma_147_3 N a1 σ = (σ 83 0) := by exact Eq.trans (if_neg c1) (Eq.trans (if_neg c2) (Eq.trans (if_neg c3) (Eq.trans (if_neg c4) (Eq.trans (if_pos c5) (rfl)))))
            rw [e0]
            exact ⟨rfl, hM, es⟩
          · by_cases c6 : a1 = (5 : Int32)
            · replace h := qa_ts (v := 5) (T := 84) (q := 84) (qa_e rfl h) (qa_sp c6 (by decide)).symm (by decide) rfl rfl
              replace h := qa_aload (n := 0) (q := 85) (qa_e rfl h) rfl g0
              replace h := qa_gi (j := 16) (q := 88) (qa_e rfl h) rfl hM es rfl (by decide)
              have er := qa_ri (qa_e rfl h)
              subst er
              have e0 : ma_147_3 N a1 σ = (σ 3 16) := by exact Eq.trans (if_neg c1) (Eq.trans (if_neg c2) (Eq.trans (if_neg c3) (Eq.trans (if_neg c4) (Eq.trans (if_neg c5) (Eq.trans (if_pos c6) (rfl))))))
              rw [e0]
              exact ⟨rfl, hM, es⟩
            · by_cases c7 : a1 = (6 : Int32)
              · replace h := qa_ts (v := 6) (T := 89) (q := 89) (qa_e rfl h) (qa_sp c7 (by decide)).symm (by decide) rfl rfl
                replace h := qa_aload (n := 0) (q := 90) (qa_e rfl h) rfl g0
                replace h := qa_gr (b := 85) (j := 6) (q := 93) (qa_e rfl h) rfl hM rfl (by decide)
                replace h := qa_gi (j := 0) (q := 96) (qa_e rfl h) rfl hM es rfl (by decide)
                have er := qa_ri (qa_e rfl h)
                subst er
                have e0 : ma_147_3 N a1 σ = (σ 85 0) := by exact Eq.trans (if_neg c1) (Eq.trans (if_neg c2) (Eq.trans (if_neg c3) (Eq.trans (if_neg c4) (Eq.trans (if_neg c5) (Eq.trans (if_neg c6) (Eq.trans (if_pos c7) (rfl)))))))
                rw [e0]
                exact ⟨rfl, hM, es⟩
              · replace h := qa_tsd (q := 97) (qa_e rfl h) (by have n0 := qa_sn (v := 0) c1 (by decide); have n1 := qa_sn (v := 1) c2 (by decide); have n2 := qa_sn (v := 2) c3 (by decide); have n3 := qa_sn (v := 3) c4 (by decide); have n4 := qa_sn (v := 4) c5 (by decide); have n5 := qa_sn (v := 5) c6 (by decide); have n6 := qa_sn (v := 6) c7 (by decide); omega) rfl
                replace h := qa_iload (n := 1) (q := 98) (qa_e rfl h) rfl g1
                replace h := qa_push (z := (11 : Int32)) (q := 100) (qa_e rfl h) rfl (by decide)
                obtain ⟨lv, M, h, hM, es⟩ : ∃ lv M, q4_run f 147 123 lv [.int ((if a1 < (11 : Int32) then (-9 : Int32) else (if (16 : Int32) < a1 then (-9 : Int32) else (σ 93 (a1 - (10 : Int32)).toNatClampNeg))))] M 0 0 = some r ∧ qa_O M ∧ qa_s M = σ := by
                  by_cases c10 : a1 < (11 : Int32)
                  · replace h := qa_ift (q := 121) (qa_e rfl h) rfl (qa_T_lt c10)
                    replace h := qa_push (z := (-9 : Int32)) (q := 123) (qa_e rfl h) rfl (by decide)
                    exact ⟨lv, M, (qa_hi1 c10 h), hM, es⟩
                  · replace h := qa_iff (q := 103) (qa_e rfl h) rfl (qa_F_lt c10)
                    replace h := qa_iload (n := 1) (q := 104) (qa_e rfl h) rfl g1
                    replace h := qa_push (z := (16 : Int32)) (q := 106) (qa_e rfl h) rfl (by decide)
                    obtain ⟨lv, M, h, hM, es⟩ : ∃ lv M, q4_run f 147 123 lv [.int ((if (16 : Int32) < a1 then (-9 : Int32) else (σ 93 (a1 - (10 : Int32)).toNatClampNeg)))] M 0 0 = some r ∧ qa_O M ∧ qa_s M = σ := by
                      by_cases c11 : (16 : Int32) < a1
                      · replace h := qa_ift (q := 121) (qa_e rfl h) rfl (qa_T_gt c11)
                        replace h := qa_push (z := (-9 : Int32)) (q := 123) (qa_e rfl h) rfl (by decide)
                        exact ⟨lv, M, (qa_hi1 c11 h), hM, es⟩
                      · replace h := qa_iff (q := 109) (qa_e rfl h) rfl (qa_F_gt c11)
                        replace h := qa_aload (n := 0) (q := 110) (qa_e rfl h) rfl g0
                        replace h := qa_gr (b := 93) (j := 10) (q := 113) (qa_e rfl h) rfl hM rfl (by decide)
                        replace h := qa_iload (n := 1) (q := 114) (qa_e rfl h) rfl g1
                        replace h := qa_push (z := (10 : Int32)) (q := 116) (qa_e rfl h) rfl (by decide)
                        replace h := qa_isub (q := 117) (qa_e rfl h) rfl
                        replace h := qa_iaload (jn := (a1 - (10 : Int32)).toNatClampNeg) (q := 118) (qa_e rfl h) rfl hM es rfl
                        replace h := qa_goto (q := 123) (qa_e rfl h) rfl
                        exact ⟨lv, M, (qa_hi0 c11 h), hM, es⟩
                    exact ⟨lv, M, (qa_hi0 c10 h), hM, es⟩
                have er := qa_ri (qa_e rfl h)
                subst er
                have e0 : ma_147_3 N a1 σ = (if a1 < (11 : Int32) then (-9 : Int32) else (if (16 : Int32) < a1 then (-9 : Int32) else (σ 93 (a1 - (10 : Int32)).toNatClampNeg))) := by exact Eq.trans (if_neg c1) (Eq.trans (if_neg c2) (Eq.trans (if_neg c3) (Eq.trans (if_neg c4) (Eq.trans (if_neg c5) (Eq.trans (if_neg c6) (Eq.trans (if_neg c7) (rfl)))))))
                rw [e0]
                exact ⟨rfl, hM, es⟩
/-- BuriedBySevensModel, refuse, (I)I -/
noncomputable def ma_152_99 (a1 : Int32) (σ : qa_S) : Int32 × qa_S :=
  qa_in (qa_u σ 107 (-a1).toNatClampNeg ((σ 107 (-a1).toNatClampNeg) + (1 : Int32))) fun m1 =>
  (a1, m1)
theorem mb_152_99 {f : Nat} {M : q4_M} {r : Option Value × q4_M} {σ : qa_S} {a1 : Int32} (hM : qa_O M) (es : qa_s M = σ) (h : q4_run f 152 0 (lv_args 0 [.ref 99, .int (a1)]) [] M 0 0 = some r) : r.1 = some (.int ((ma_152_99 a1 σ).1)) ∧ qa_O r.2 ∧ qa_s r.2 = (ma_152_99 a1 σ).2 := by
  obtain ⟨lv, el⟩ : ∃ l, l = lv_args 0 [.ref 99, .int (a1)] := ⟨_, rfl⟩
  have g0 : q4_get lv 0 = some (.ref 99) := by rw [el]; rfl
  have g1 : q4_get lv 1 = some (.int (a1)) := by rw [el]; rfl
  rw [← el] at h
  clear el
  replace h := qa_aload (n := 0) (q := 1) (qa_e rfl h) rfl g0
  replace h := qa_gr (b := 107) (j := 10) (q := 4) (qa_e rfl h) rfl hM rfl (by decide)
  replace h := qa_iload (n := 1) (q := 5) (qa_e rfl h) rfl g1
  replace h := qa_ineg (q := 6) (qa_e rfl h) rfl
  replace h := qa_dup2 (q := 7) (qa_e rfl h) rfl
  replace h := qa_iaload (jn := (-a1).toNatClampNeg) (q := 8) (qa_e rfl h) rfl hM es rfl
  replace h := qa_push (z := (1 : Int32)) (q := 9) (qa_e rfl h) rfl (by decide)
  replace h := qa_iadd (q := 10) (qa_e rfl h) rfl
  obtain ⟨m1, em1⟩ : ∃ x, x = qa_u σ 107 (-a1).toNatClampNeg ((σ 107 (-a1).toNatClampNeg) + (1 : Int32)) := ⟨_, rfl⟩
  obtain ⟨M, h, hM, es⟩ := qa_iastore (jn := (-a1).toNatClampNeg) (q := 11) (qa_e rfl h) rfl hM es rfl
  rw [← em1] at es
  replace h := qa_iload (n := 1) (q := 12) (qa_e rfl h) rfl g1
  have er := qa_ri (qa_e rfl h)
  subst er
  have e0 : ma_152_99 a1 σ = (a1, m1) := by exact Eq.trans (qa_ie em1) (rfl)
  rw [e0]
  exact ⟨rfl, hM, es⟩
/-- BuriedBySevensModel, feed, (I)I -/
noncomputable def ma_151_99 (a1 : Int32) (σ : qa_S) : Int32 × qa_S :=
  qa_in (qa_u σ 99 9 (0 : Int32)) fun m1 =>
  if a1 < (0 : Int32) then
    qa_in ((ma_152_99 (-4 : Int32) m1)) fun r3 =>
    (r3.1, r3.2)
  else
    if (255 : Int32) < a1 then
      qa_in ((ma_152_99 (-6 : Int32) m1)) fun r5 =>
      (r5.1, r5.2)
    else
      if (m1 99 17) = (96 : Int32) then
        qa_in ((ma_152_99 (-6 : Int32) m1)) fun r7 =>
        (r7.1, r7.2)
      else
        qa_in (qa_u m1 113 (m1 99 17).toNatClampNeg a1) fun m8 =>
        qa_in (qa_u m8 99 17 ((m8 99 17) + (1 : Int32))) fun m9 =>
        ((m9 99 17), m9)
theorem mb_151_99 {f : Nat} {M : q4_M} {r : Option Value × q4_M} {σ : qa_S} {a1 : Int32} (hM : qa_O M) (es : qa_s M = σ) (h : q4_run f 151 0 (lv_args 0 [.ref 99, .int (a1)]) [] M 0 0 = some r) : r.1 = some (.int ((ma_151_99 a1 σ).1)) ∧ qa_O r.2 ∧ qa_s r.2 = (ma_151_99 a1 σ).2 := by
  obtain ⟨lv, el⟩ : ∃ l, l = lv_args 0 [.ref 99, .int (a1)] := ⟨_, rfl⟩
  have g0 : q4_get lv 0 = some (.ref 99) := by rw [el]; rfl
  have g1 : q4_get lv 1 = some (.int (a1)) := by rw [el]; rfl
  rw [← el] at h
  clear el
  replace h := qa_aload (n := 0) (q := 1) (qa_e rfl h) rfl g0
  replace h := qa_push (z := (0 : Int32)) (q := 2) (qa_e rfl h) rfl (by decide)
  obtain ⟨m1, em1⟩ : ∃ x, x = qa_u σ 99 9 (0 : Int32) := ⟨_, rfl⟩
  obtain ⟨M, h, hM, es⟩ := qa_pf (j := 9) (q := 5) (qa_e rfl h) rfl hM es rfl (by decide)
  rw [← em1] at es
  replace h := qa_iload (n := 1) (q := 6) (qa_e rfl h) rfl g1
  by_cases c2 : a1 < (0 : Int32)
  · replace h := qa_icf (q := 9) (qa_e rfl h) rfl (qa_F_ge c2)
    replace h := qa_aload (n := 0) (q := 10) (qa_e rfl h) rfl g0
    replace h := qa_push (z := (-4 : Int32)) (q := 12) (qa_e rfl h) rfl (by decide)
    obtain ⟨r3, er3⟩ : ∃ x, x = (ma_152_99 (-4 : Int32) m1) := ⟨_, rfl⟩
    obtain ⟨M, h, hM, es⟩ := qa_c1 (y := 152) (as := [.ref 99, .int ((-4 : Int32))]) (rest := []) (i := .invokevirtual 152) (q := 15) (qa_e rfl h) (Or.inl rfl) rfl rfl (by decide) rfl (fun r hc => mb_152_99 hM es hc)
    rw [← er3] at h es
    have er := qa_ri (qa_e rfl h)
    subst er
    have e0 : ma_151_99 a1 σ = (r3.1, r3.2) := by exact Eq.trans (qa_ie em1) (Eq.trans (if_pos c2) (Eq.trans (qa_ie er3) (rfl)))
    rw [e0]
    exact ⟨rfl, hM, es⟩
  · replace h := qa_ict (q := 16) (qa_e rfl h) rfl (qa_T_ge c2)
    replace h := qa_iload (n := 1) (q := 17) (qa_e rfl h) rfl g1
    replace h := qa_push (z := (255 : Int32)) (q := 20) (qa_e rfl h) rfl (by decide)
    by_cases c4 : (255 : Int32) < a1
    · replace h := qa_ift (q := 32) (qa_e rfl h) rfl (qa_T_gt c4)
      replace h := qa_aload (n := 0) (q := 33) (qa_e rfl h) rfl g0
      replace h := qa_push (z := (-6 : Int32)) (q := 35) (qa_e rfl h) rfl (by decide)
      obtain ⟨r5, er5⟩ : ∃ x, x = (ma_152_99 (-6 : Int32) m1) := ⟨_, rfl⟩
      obtain ⟨M, h, hM, es⟩ := qa_c1 (y := 152) (as := [.ref 99, .int ((-6 : Int32))]) (rest := []) (i := .invokevirtual 152) (q := 38) (qa_e rfl h) (Or.inl rfl) rfl rfl (by decide) rfl (fun r hc => mb_152_99 hM es hc)
      rw [← er5] at h es
      have er := qa_ri (qa_e rfl h)
      subst er
      have e0 : ma_151_99 a1 σ = (r5.1, r5.2) := by exact Eq.trans (qa_ie em1) (Eq.trans (if_neg c2) (Eq.trans (if_pos c4) (Eq.trans (qa_ie er5) (rfl))))
      rw [e0]
      exact ⟨rfl, hM, es⟩
    · replace h := qa_iff (q := 23) (qa_e rfl h) rfl (qa_F_gt c4)
      replace h := qa_aload (n := 0) (q := 24) (qa_e rfl h) rfl g0
      replace h := qa_gi (j := 17) (q := 27) (qa_e rfl h) rfl hM es rfl (by decide)
      replace h := qa_push (z := (96 : Int32)) (q := 29) (qa_e rfl h) rfl (by decide)
      by_cases c6 : (m1 99 17) = (96 : Int32)
      · replace h := qa_iff (q := 32) (qa_e rfl h) rfl (qa_F_ne c6)
        replace h := qa_aload (n := 0) (q := 33) (qa_e rfl h) rfl g0
        replace h := qa_push (z := (-6 : Int32)) (q := 35) (qa_e rfl h) rfl (by decide)
        obtain ⟨r7, er7⟩ : ∃ x, x = (ma_152_99 (-6 : Int32) m1) := ⟨_, rfl⟩
        obtain ⟨M, h, hM, es⟩ := qa_c1 (y := 152) (as := [.ref 99, .int ((-6 : Int32))]) (rest := []) (i := .invokevirtual 152) (q := 38) (qa_e rfl h) (Or.inl rfl) rfl rfl (by decide) rfl (fun r hc => mb_152_99 hM es hc)
        rw [← er7] at h es
        have er := qa_ri (qa_e rfl h)
        subst er
        have e0 : ma_151_99 a1 σ = (r7.1, r7.2) := by exact Eq.trans (qa_ie em1) (Eq.trans (if_neg c2) (Eq.trans (if_neg c4) (Eq.trans (if_pos c6) (Eq.trans (qa_ie er7) (rfl)))))
        rw [e0]
        exact ⟨rfl, hM, es⟩
      · replace h := qa_ift (q := 39) (qa_e rfl h) rfl (qa_T_ne c6)
        replace h := qa_aload (n := 0) (q := 40) (qa_e rfl h) rfl g0
        replace h := qa_gr (b := 113) (j := 16) (q := 43) (qa_e rfl h) rfl hM rfl (by decide)
        replace h := qa_aload (n := 0) (q := 44) (qa_e rfl h) rfl g0
        replace h := qa_gi (j := 17) (q := 47) (qa_e rfl h) rfl hM es rfl (by decide)
        replace h := qa_iload (n := 1) (q := 48) (qa_e rfl h) rfl g1
        obtain ⟨m8, em8⟩ : ∃ x, x = qa_u m1 113 (m1 99 17).toNatClampNeg a1 := ⟨_, rfl⟩
        obtain ⟨M, h, hM, es⟩ := qa_iastore (jn := (m1 99 17).toNatClampNeg) (q := 49) (qa_e rfl h) rfl hM es rfl
        rw [← em8] at es
        replace h := qa_aload (n := 0) (q := 50) (qa_e rfl h) rfl g0
        replace h := qa_dupa (q := 51) (qa_e rfl h) rfl
        replace h := qa_gi (j := 17) (q := 54) (qa_e rfl h) rfl hM es rfl (by decide)
        replace h := qa_push (z := (1 : Int32)) (q := 55) (qa_e rfl h) rfl (by decide)
        replace h := qa_iadd (q := 56) (qa_e rfl h) rfl
        obtain ⟨m9, em9⟩ : ∃ x, x = qa_u m8 99 17 ((m8 99 17) + (1 : Int32)) := ⟨_, rfl⟩
        obtain ⟨M, h, hM, es⟩ := qa_pf (j := 17) (q := 59) (qa_e rfl h) rfl hM es rfl (by decide)
        rw [← em9] at es
        replace h := qa_aload (n := 0) (q := 60) (qa_e rfl h) rfl g0
        replace h := qa_gi (j := 17) (q := 63) (qa_e rfl h) rfl hM es rfl (by decide)
        have er := qa_ri (qa_e rfl h)
        subst er
        have e0 : ma_151_99 a1 σ = ((m9 99 17), m9) := by exact Eq.trans (qa_ie em1) (Eq.trans (if_neg c2) (Eq.trans (if_neg c4) (Eq.trans (if_neg c6) (Eq.trans (qa_ie em8) (Eq.trans (qa_ie em9) (rfl))))))
        rw [e0]
        exact ⟨rfl, hM, es⟩
/-- BuriedBySevensModel, here, ()I -/
noncomputable def ma_155_99 (σ : qa_S) : Int32 :=
  (if (σ 99 18) < (σ 99 17) then (σ 113 (σ 99 18).toNatClampNeg) else (-1 : Int32))
theorem mb_155_99 {f : Nat} {M : q4_M} {r : Option Value × q4_M} {σ : qa_S} (hM : qa_O M) (es : qa_s M = σ) (h : q4_run f 155 0 (lv_args 0 [.ref 99]) [] M 0 0 = some r) : r.1 = some (.int ((ma_155_99 σ))) ∧ qa_O r.2 ∧ qa_s r.2 = σ := by
  obtain ⟨lv, el⟩ : ∃ l, l = lv_args 0 [.ref 99] := ⟨_, rfl⟩
  have g0 : q4_get lv 0 = some (.ref 99) := by rw [el]; rfl
  rw [← el] at h
  clear el
  replace h := qa_aload (n := 0) (q := 1) (qa_e rfl h) rfl g0
  replace h := qa_gi (j := 18) (q := 4) (qa_e rfl h) rfl hM es rfl (by decide)
  replace h := qa_aload (n := 0) (q := 5) (qa_e rfl h) rfl g0
  replace h := qa_gi (j := 17) (q := 8) (qa_e rfl h) rfl hM es rfl (by decide)
  obtain ⟨lv, M, h, hM, es⟩ : ∃ lv M, q4_run f 155 24 lv [.int ((if (σ 99 18) < (σ 99 17) then (σ 113 (σ 99 18).toNatClampNeg) else (-1 : Int32)))] M 0 0 = some r ∧ qa_O M ∧ qa_s M = σ := by
    by_cases c1 : (σ 99 18) < (σ 99 17)
    · replace h := qa_iff (q := 11) (qa_e rfl h) rfl (qa_F_ge c1)
      replace h := qa_aload (n := 0) (q := 12) (qa_e rfl h) rfl g0
      replace h := qa_gr (b := 113) (j := 16) (q := 15) (qa_e rfl h) rfl hM rfl (by decide)
      replace h := qa_aload (n := 0) (q := 16) (qa_e rfl h) rfl g0
      replace h := qa_gi (j := 18) (q := 19) (qa_e rfl h) rfl hM es rfl (by decide)
      replace h := qa_iaload (jn := (σ 99 18).toNatClampNeg) (q := 20) (qa_e rfl h) rfl hM es rfl
      replace h := qa_goto (q := 24) (qa_e rfl h) rfl
      exact ⟨lv, M, (qa_hi1 c1 h), hM, es⟩
    · replace h := qa_ift (q := 23) (qa_e rfl h) rfl (qa_T_ge c1)
      replace h := qa_push (z := (-1 : Int32)) (q := 24) (qa_e rfl h) rfl (by decide)
      exact ⟨lv, M, (qa_hi0 c1 h), hM, es⟩
  have er := qa_ri (qa_e rfl h)
  subst er
  have e0 : ma_155_99 σ = (if (σ 99 18) < (σ 99 17) then (σ 113 (σ 99 18).toNatClampNeg) else (-1 : Int32)) := by exact rfl
  rw [e0]
  exact ⟨rfl, hM, es⟩
/-- BuriedBySevensModel, lies, (JJJ)Z -/
noncomputable def ma_158 (a0 : Int64) (a2 : Int64) (a4 : Int64) : Int32 :=
  (if (lg_cmp a0 a2) < (0 : Int32) then (0 : Int32) else (if (0 : Int32) < (lg_cmp a0 a4) then (0 : Int32) else (1 : Int32)))
theorem mb_158 {f : Nat} {M : q4_M} {r : Option Value × q4_M} {σ : qa_S} {a0 : Int64} {a2 : Int64} {a4 : Int64} (hM : qa_O M) (es : qa_s M = σ) (h : q4_run f 158 0 (lv_args 0 [.long (a0), .long (a2), .long (a4)]) [] M 0 0 = some r) : r.1 = some (.int ((ma_158 a0 a2 a4))) ∧ qa_O r.2 ∧ qa_s r.2 = σ := by
  obtain ⟨lv, el⟩ : ∃ l, l = lv_args 0 [.long (a0), .long (a2), .long (a4)] := ⟨_, rfl⟩
  have g0 : q4_get lv 0 = some (.long (a0)) := by rw [el]; rfl
  have g2 : q4_get lv 2 = some (.long (a2)) := by rw [el]; rfl
  have g4 : q4_get lv 4 = some (.long (a4)) := by rw [el]; rfl
  rw [← el] at h
  clear el
  replace h := qa_lload (n := 0) (q := 1) (qa_e rfl h) rfl g0
  replace h := qa_lload (n := 2) (q := 2) (qa_e rfl h) rfl g2
  replace h := qa_lcmp (q := 3) (qa_e rfl h) rfl
  obtain ⟨lv, M, h, hM, es⟩ : ∃ lv M, q4_run f 158 18 lv [.int ((if (lg_cmp a0 a2) < (0 : Int32) then (0 : Int32) else (if (0 : Int32) < (lg_cmp a0 a4) then (0 : Int32) else (1 : Int32))))] M 0 0 = some r ∧ qa_O M ∧ qa_s M = σ := by
    by_cases c1 : (lg_cmp a0 a2) < (0 : Int32)
    · replace h := qa_ict (q := 17) (qa_e rfl h) rfl (qa_T_lt c1)
      replace h := qa_push (z := (0 : Int32)) (q := 18) (qa_e rfl h) rfl (by decide)
      exact ⟨lv, M, (qa_hi1 c1 h), hM, es⟩
    · replace h := qa_icf (q := 6) (qa_e rfl h) rfl (qa_F_lt c1)
      replace h := qa_lload (n := 0) (q := 7) (qa_e rfl h) rfl g0
      replace h := qa_lload (n := 4) (q := 9) (qa_e rfl h) rfl g4
      replace h := qa_lcmp (q := 10) (qa_e rfl h) rfl
      obtain ⟨lv, M, h, hM, es⟩ : ∃ lv M, q4_run f 158 18 lv [.int ((if (0 : Int32) < (lg_cmp a0 a4) then (0 : Int32) else (1 : Int32)))] M 0 0 = some r ∧ qa_O M ∧ qa_s M = σ := by
        by_cases c2 : (0 : Int32) < (lg_cmp a0 a4)
        · replace h := qa_ict (q := 17) (qa_e rfl h) rfl (qa_T_gt c2)
          replace h := qa_push (z := (0 : Int32)) (q := 18) (qa_e rfl h) rfl (by decide)
          exact ⟨lv, M, (qa_hi1 c2 h), hM, es⟩
        · replace h := qa_icf (q := 13) (qa_e rfl h) rfl (qa_F_gt c2)
          replace h := qa_push (z := (1 : Int32)) (q := 14) (qa_e rfl h) rfl (by decide)
          replace h := qa_goto (q := 18) (qa_e rfl h) rfl
          exact ⟨lv, M, (qa_hi0 c2 h), hM, es⟩
      exact ⟨lv, M, (qa_hi0 c1 h), hM, es⟩
  have er := qa_ri (qa_e rfl h)
  subst er
  have e0 : ma_158 a0 a2 a4 = (if (lg_cmp a0 a2) < (0 : Int32) then (0 : Int32) else (if (0 : Int32) < (lg_cmp a0 a4) then (0 : Int32) else (1 : Int32))) := by exact rfl
  rw [e0]
  exact ⟨rfl, hM, es⟩
noncomputable def mc_157_99_p4 (N : Nat) (l1 : Int32) (s : Int32 × Int32 × qa_S) : (Int32 × Int32 × qa_S) ⊕ (Int32 × Int32 × qa_S) :=
  if s.1 < l1 then
    qa_in (qa_u s.2.2 99 19 (if (s.2.2 99 19) = (0 : Int32) then (if (ma_158 ((ma_155_99 s.2.2)).toInt64 (48 : Int64) (57 : Int64)) = (0 : Int32) then (1 : Int32) else (0 : Int32)) else (1 : Int32))) fun m4 =>
    qa_in (qa_u m4 99 18 ((m4 99 18) + (if (m4 99 19) = (0 : Int32) then (1 : Int32) else (0 : Int32)))) fun m7 =>
    .inl ((s.1 + (1 : Int32)), (if (m4 99 19) = (0 : Int32) then ((((10 : Int32) * s.2.1) + (m4 113 (m4 99 18).toNatClampNeg)) - (48 : Int32)) else (0 : Int32)), m7)
  else
    .inr (s.1, s.2.1, s.2.2)
theorem md_157_99_p4 {N F : Nat} {r : Option Value × q4_M} {l1 : Int32} (hN : F ≤ N) : ∀ f n, f ≤ n → f ≤ F → ∀ (s : Int32 × Int32 × qa_S) (lv : List (Nat × Value)) (M : q4_M), qa_O M → qa_s M = s.2.2 → q4_get lv 0 = some (.ref 99) → q4_get lv 1 = some (.int (l1)) → q4_get lv 2 = some (.int (s.2.1)) → q4_get lv 3 = some (.int (s.1)) → q4_run f 157 4 lv [] M 0 0 = some r → ∃ lv M, q4_run F 157 98 lv [] M 0 0 = some r ∧ qa_O M ∧ qa_s M = (qa_wh (fun s => s) (mc_157_99_p4 N l1) n s).2.2 ∧ q4_get lv 2 = some (.int ((qa_wh (fun s => s) (mc_157_99_p4 N l1) n s).2.1)) := by
  intro f
  induction f with
  | zero => intro n _ _ s lv M hM es _ _ _ _ h; cases h
  | succ f ih =>
    intro n hn hF s lv M hM es g0 g1 g2 g3 h
    obtain ⟨n, rfl⟩ : ∃ n1, n = n1 + 1 := ⟨n - 1, by omega⟩
    replace hn : f ≤ n := Nat.le_of_succ_le_succ hn
    have hN := Nat.le_trans (Nat.le_of_succ_le hF) hN
    replace h := qa_iload (n := 3) (q := 5) (qa_d rfl h) rfl g3
    replace h := qa_iload (n := 1) (q := 6) (qa_e rfl h) rfl g1
    by_cases c1 : s.1 < l1
    · replace h := qa_iff (q := 9) (qa_e rfl h) rfl (qa_F_ge c1)
      replace h := qa_aload (n := 0) (q := 10) (qa_e rfl h) rfl g0
      replace h := qa_aload (n := 0) (q := 11) (qa_e rfl h) rfl g0
      replace h := qa_gi (j := 19) (q := 14) (qa_e rfl h) rfl hM es rfl (by decide)
      obtain ⟨lv, M, h, hM, es, g0, g1, g2, g3⟩ : ∃ lv M, q4_run f 157 39 lv [.int ((if (s.2.2 99 19) = (0 : Int32) then (if (ma_158 ((ma_155_99 s.2.2)).toInt64 (48 : Int64) (57 : Int64)) = (0 : Int32) then (1 : Int32) else (0 : Int32)) else (1 : Int32))), .ref 99] M 0 0 = some r ∧ qa_O M ∧ qa_s M = s.2.2 ∧ q4_get lv 0 = some (.ref 99) ∧ q4_get lv 1 = some (.int (l1)) ∧ q4_get lv 2 = some (.int (s.2.1)) ∧ q4_get lv 3 = some (.int (s.1)) := by
        by_cases c2 : (s.2.2 99 19) = (0 : Int32)
        · replace h := qa_icf (q := 17) (qa_e rfl h) rfl (qa_F_ne c2)
          replace h := qa_aload (n := 0) (q := 18) (qa_e rfl h) rfl g0
          obtain ⟨M, h, hM, es⟩ := qa_c1 (y := 155) (as := [.ref 99]) (rest := [.ref 99]) (i := .invokevirtual 155) (q := 21) (qa_e rfl h) (Or.inl rfl) rfl rfl (by decide) rfl (fun r hc => mb_155_99 hM es hc)
          replace h := qa_i2l (q := 22) (qa_e rfl h) rfl
          replace h := qa_lpush (z := (48 : Int64)) (q := 25) (qa_e rfl h) rfl (by decide)
          replace h := qa_lpush (z := (57 : Int64)) (q := 28) (qa_e rfl h) rfl (by decide)
          obtain ⟨M, h, hM, es⟩ := qa_c1 (y := 158) (as := [.long (((ma_155_99 s.2.2)).toInt64), .long ((48 : Int64)), .long ((57 : Int64))]) (rest := [.ref 99]) (i := .invokestatic 158) (q := 31) (qa_e rfl h) (Or.inr rfl) rfl rfl (by decide) rfl (fun r hc => mb_158 hM es hc)
          obtain ⟨lv, M, h, hM, es, g0, g1, g2, g3⟩ : ∃ lv M, q4_run f 157 39 lv [.int ((if (ma_158 ((ma_155_99 s.2.2)).toInt64 (48 : Int64) (57 : Int64)) = (0 : Int32) then (1 : Int32) else (0 : Int32))), .ref 99] M 0 0 = some r ∧ qa_O M ∧ qa_s M = s.2.2 ∧ q4_get lv 0 = some (.ref 99) ∧ q4_get lv 1 = some (.int (l1)) ∧ q4_get lv 2 = some (.int (s.2.1)) ∧ q4_get lv 3 = some (.int (s.1)) := by
            by_cases c3 : (ma_158 ((ma_155_99 s.2.2)).toInt64 (48 : Int64) (57 : Int64)) = (0 : Int32)
            · replace h := qa_icf (q := 34) (qa_e rfl h) rfl (qa_F_ne c3)
              replace h := qa_push (z := (1 : Int32)) (q := 35) (qa_e rfl h) rfl (by decide)
              replace h := qa_goto (q := 39) (qa_e rfl h) rfl
              exact ⟨lv, M, (qa_hi1 c3 h), hM, es, g0, g1, g2, g3⟩
            · replace h := qa_ict (q := 38) (qa_e rfl h) rfl (qa_T_ne c3)
              replace h := qa_push (z := (0 : Int32)) (q := 39) (qa_e rfl h) rfl (by decide)
              exact ⟨lv, M, (qa_hi0 c3 h), hM, es, g0, g1, g2, g3⟩
          exact ⟨lv, M, (qa_hi1 c2 h), hM, es, g0, g1, g2, g3⟩
        · replace h := qa_ict (q := 34) (qa_e rfl h) rfl (qa_T_ne c2)
          replace h := qa_push (z := (1 : Int32)) (q := 35) (qa_e rfl h) rfl (by decide)
          replace h := qa_goto (q := 39) (qa_e rfl h) rfl
          exact ⟨lv, M, (qa_hi0 c2 h), hM, es, g0, g1, g2, g3⟩
      obtain ⟨m4, em4⟩ : ∃ x, x = qa_u s.2.2 99 19 (if (s.2.2 99 19) = (0 : Int32) then (if (ma_158 ((ma_155_99 s.2.2)).toInt64 (48 : Int64) (57 : Int64)) = (0 : Int32) then (1 : Int32) else (0 : Int32)) else (1 : Int32)) := ⟨_, rfl⟩
      obtain ⟨M, h, hM, es⟩ := qa_pf (j := 19) (q := 42) (qa_e rfl h) rfl hM es rfl (by decide)
      rw [← em4] at es
      replace h := qa_aload (n := 0) (q := 43) (qa_e rfl h) rfl g0
      replace h := qa_gi (j := 19) (q := 46) (qa_e rfl h) rfl hM es rfl (by decide)
      obtain ⟨lv, M, h, hM, es, g0, g1, g3⟩ : ∃ lv M, q4_run f 157 70 lv [.int ((if (m4 99 19) = (0 : Int32) then ((((10 : Int32) * s.2.1) + (m4 113 (m4 99 18).toNatClampNeg)) - (48 : Int32)) else (0 : Int32)))] M 0 0 = some r ∧ qa_O M ∧ qa_s M = m4 ∧ q4_get lv 0 = some (.ref 99) ∧ q4_get lv 1 = some (.int (l1)) ∧ q4_get lv 3 = some (.int (s.1)) := by
        by_cases c5 : (m4 99 19) = (0 : Int32)
        · replace h := qa_ict (q := 53) (qa_e rfl h) rfl (qa_T_eq c5)
          replace h := qa_push (z := (10 : Int32)) (q := 55) (qa_e rfl h) rfl (by decide)
          replace h := qa_iload (n := 2) (q := 56) (qa_e rfl h) rfl g2
          replace h := qa_imul (q := 57) (qa_e rfl h) rfl
          replace h := qa_aload (n := 0) (q := 58) (qa_e rfl h) rfl g0
          replace h := qa_gr (b := 113) (j := 16) (q := 61) (qa_e rfl h) rfl hM rfl (by decide)
          replace h := qa_aload (n := 0) (q := 62) (qa_e rfl h) rfl g0
          replace h := qa_gi (j := 18) (q := 65) (qa_e rfl h) rfl hM es rfl (by decide)
          replace h := qa_iaload (jn := (m4 99 18).toNatClampNeg) (q := 66) (qa_e rfl h) rfl hM es rfl
          replace h := qa_iadd (q := 67) (qa_e rfl h) rfl
          replace h := qa_push (z := (48 : Int32)) (q := 69) (qa_e rfl h) rfl (by decide)
          replace h := qa_isub (q := 70) (qa_e rfl h) rfl
          exact ⟨lv, M, (qa_hi1 c5 h), hM, es, g0, g1, g3⟩
        · replace h := qa_icf (q := 49) (qa_e rfl h) rfl (qa_F_eq c5)
          replace h := qa_push (z := (0 : Int32)) (q := 50) (qa_e rfl h) rfl (by decide)
          replace h := qa_goto (q := 70) (qa_e rfl h) rfl
          exact ⟨lv, M, (qa_hi0 c5 h), hM, es, g0, g1, g3⟩
      obtain ⟨lv, h, g, T⟩ := qa_istore (n := 2) (q := 71) (qa_e rfl h) rfl
      replace g0 := T _ _ g0 (by decide) (Or.inr rfl)
      replace g1 := T _ _ g1 (by decide) (Or.inr rfl)
      replace g3 := T _ _ g3 (by decide) (Or.inr rfl)
      have g2 := g
      clear g T
      replace h := qa_aload (n := 0) (q := 72) (qa_e rfl h) rfl g0
      replace h := qa_dupa (q := 73) (qa_e rfl h) rfl
      replace h := qa_gi (j := 18) (q := 76) (qa_e rfl h) rfl hM es rfl (by decide)
      replace h := qa_aload (n := 0) (q := 77) (qa_e rfl h) rfl g0
      replace h := qa_gi (j := 19) (q := 80) (qa_e rfl h) rfl hM es rfl (by decide)
      obtain ⟨lv, M, h, hM, es, g0, g1, g2, g3⟩ : ∃ lv M, q4_run f 157 88 lv [.int ((if (m4 99 19) = (0 : Int32) then (1 : Int32) else (0 : Int32))), .int ((m4 99 18)), .ref 99] M 0 0 = some r ∧ qa_O M ∧ qa_s M = m4 ∧ q4_get lv 0 = some (.ref 99) ∧ q4_get lv 1 = some (.int (l1)) ∧ q4_get lv 2 = some (.int ((if (m4 99 19) = (0 : Int32) then ((((10 : Int32) * s.2.1) + (m4 113 (m4 99 18).toNatClampNeg)) - (48 : Int32)) else (0 : Int32)))) ∧ q4_get lv 3 = some (.int (s.1)) := by
        by_cases c6 : (m4 99 19) = (0 : Int32)
        · replace h := qa_ict (q := 87) (qa_e rfl h) rfl (qa_T_eq c6)
          replace h := qa_push (z := (1 : Int32)) (q := 88) (qa_e rfl h) rfl (by decide)
          exact ⟨lv, M, (qa_hi1 c6 h), hM, es, g0, g1, g2, g3⟩
        · replace h := qa_icf (q := 83) (qa_e rfl h) rfl (qa_F_eq c6)
          replace h := qa_push (z := (0 : Int32)) (q := 84) (qa_e rfl h) rfl (by decide)
          replace h := qa_goto (q := 88) (qa_e rfl h) rfl
          exact ⟨lv, M, (qa_hi0 c6 h), hM, es, g0, g1, g2, g3⟩
      replace h := qa_iadd (q := 89) (qa_e rfl h) rfl
      obtain ⟨m7, em7⟩ : ∃ x, x = qa_u m4 99 18 ((m4 99 18) + (if (m4 99 19) = (0 : Int32) then (1 : Int32) else (0 : Int32))) := ⟨_, rfl⟩
      obtain ⟨M, h, hM, es⟩ := qa_pf (j := 18) (q := 92) (qa_e rfl h) rfl hM es rfl (by decide)
      rw [← em7] at es
      obtain ⟨lv, h, g, T⟩ := qa_iinc (n := 3) (z := (1 : Int32)) (q := 95) (qa_e rfl h) rfl (by decide) g3
      replace g0 := T _ _ g0 (by decide) (Or.inr rfl)
      replace g1 := T _ _ g1 (by decide) (Or.inr rfl)
      replace g2 := T _ _ g2 (by decide) (Or.inr rfl)
      replace g3 := g
      clear g T
      replace h := qa_goto (q := 4) (qa_e rfl h) rfl
      have e0 : mc_157_99_p4 N l1 s = .inl ((s.1 + (1 : Int32)), (if (m4 99 19) = (0 : Int32) then ((((10 : Int32) * s.2.1) + (m4 113 (m4 99 18).toNatClampNeg)) - (48 : Int32)) else (0 : Int32)), m7) := by exact Eq.trans (if_pos c1) (Eq.trans (qa_ie em4) (Eq.trans (qa_ie em7) (rfl)))
      rw [qa_whl e0]
      exact ih n hn (Nat.le_of_succ_le hF) ((s.1 + (1 : Int32)), (if (m4 99 19) = (0 : Int32) then ((((10 : Int32) * s.2.1) + (m4 113 (m4 99 18).toNatClampNeg)) - (48 : Int32)) else (0 : Int32)), m7) _ _ hM es g0 g1 g2 g3 h
    · replace h := qa_ift (q := 98) (qa_e rfl h) rfl (qa_T_ge c1)
      have e0 : mc_157_99_p4 N l1 s = .inr (s.1, s.2.1, s.2.2) := by exact Eq.trans (if_neg c1) (rfl)
      rw [qa_whr e0]
      exact ⟨_, _, q61_mono f F _ _ _ _ _ _ _ _ (Nat.le_of_succ_le hF) h, hM, es, g2⟩
/-- BuriedBySevensModel, readDigits, (I)I -/
noncomputable def ma_157_99 (N : Nat) (a1 : Int32) (σ : qa_S) : Int32 × qa_S :=
  qa_in ((qa_wh (fun s => s) (mc_157_99_p4 N a1) N ((0 : Int32), (0 : Int32), σ))) fun r1 =>
  (r1.2.1, r1.2.2)
theorem mb_157_99 {f N : Nat} (hN : f ≤ N) {M : q4_M} {r : Option Value × q4_M} {σ : qa_S} {a1 : Int32} (hM : qa_O M) (es : qa_s M = σ) (h : q4_run f 157 0 (lv_args 0 [.ref 99, .int (a1)]) [] M 0 0 = some r) : r.1 = some (.int ((ma_157_99 N a1 σ).1)) ∧ qa_O r.2 ∧ qa_s r.2 = (ma_157_99 N a1 σ).2 := by
  obtain ⟨lv, el⟩ : ∃ l, l = lv_args 0 [.ref 99, .int (a1)] := ⟨_, rfl⟩
  have g0 : q4_get lv 0 = some (.ref 99) := by rw [el]; rfl
  have g1 : q4_get lv 1 = some (.int (a1)) := by rw [el]; rfl
  rw [← el] at h
  clear el
  replace h := qa_push (z := (0 : Int32)) (q := 1) (qa_e rfl h) rfl (by decide)
  obtain ⟨lv, h, g, T⟩ := qa_istore (n := 2) (q := 2) (qa_e rfl h) rfl
  replace g0 := T _ _ g0 (by decide) (Or.inr rfl)
  replace g1 := T _ _ g1 (by decide) (Or.inr rfl)
  have g2 := g
  clear g T
  replace h := qa_push (z := (0 : Int32)) (q := 3) (qa_e rfl h) rfl (by decide)
  obtain ⟨lv, h, g, T⟩ := qa_istore (n := 3) (q := 4) (qa_e rfl h) rfl
  replace g0 := T _ _ g0 (by decide) (Or.inr rfl)
  replace g1 := T _ _ g1 (by decide) (Or.inr rfl)
  replace g2 := T _ _ g2 (by decide) (Or.inr rfl)
  have g3 := g
  clear g T
  obtain ⟨r1, er1⟩ : ∃ x, x = (qa_wh (fun s => s) (mc_157_99_p4 N a1) N ((0 : Int32), (0 : Int32), σ)) := ⟨_, rfl⟩
  have L := md_157_99_p4 (l1 := a1) (F := f) (N := N) (r := r) hN f N hN (Nat.le_refl f) ((0 : Int32), (0 : Int32), σ) _ _ hM es g0 g1 g2 g3 h
  rw [← er1] at L
  obtain ⟨lv, M, h, hM, es, g2⟩ := L
  replace h := qa_iload (n := 2) (q := 99) (qa_e rfl h) rfl g2
  have er := qa_ri (qa_e rfl h)
  subst er
  have e0 : ma_157_99 N a1 σ = (r1.2.1, r1.2.2) := by exact Eq.trans (qa_ie er1) (rfl)
  rw [e0]
  exact ⟨rfl, hM, es⟩
/-- BuriedBySevensModel, readNumbers, (II)V -/
noncomputable def ma_156_99 (N : Nat) (a1 : Int32) (a2 : Int32) (σ : qa_S) : qa_S :=
  qa_in ((ma_157_99 N (2 : Int32) σ)) fun r2 =>
  qa_in (qa_u r2.2 116 a2.toNatClampNeg r2.1) fun m3 =>
  qa_in ((ma_157_99 N (1 : Int32) σ)) fun r4 =>
  qa_in (qa_u r4.2 116 a2.toNatClampNeg r4.1) fun m5 =>
  qa_in ((if a1 = (116 : Int32) then m3 else m5)) fun m6 =>
  qa_in ((ma_157_99 N (1 : Int32) m6)) fun r7 =>
  qa_in (qa_u r7.2 116 (a2 + (1 : Int32)).toNatClampNeg r7.1) fun m8 =>
  qa_in ((ma_157_99 N (if a1 = (99 : Int32) then (4 : Int32) else (1 : Int32)) m8)) fun r11 =>
  qa_in (qa_u r11.2 116 (a2 + (2 : Int32)).toNatClampNeg r11.1) fun m12 =>
  qa_in ((if a1 = (115 : Int32) then m8 else m12)) fun m13 =>
  m13
theorem mb_156_99 {f N : Nat} (hN : f ≤ N) {M : q4_M} {r : Option Value × q4_M} {σ : qa_S} {a1 : Int32} {a2 : Int32} (hM : qa_O M) (es : qa_s M = σ) (h : q4_run f 156 0 (lv_args 0 [.ref 99, .int (a1), .int (a2)]) [] M 0 0 = some r) : r.1 = none ∧ qa_O r.2 ∧ qa_s r.2 = (ma_156_99 N a1 a2 σ) := by
  obtain ⟨lv, el⟩ : ∃ l, l = lv_args 0 [.ref 99, .int (a1), .int (a2)] := ⟨_, rfl⟩
  have g0 : q4_get lv 0 = some (.ref 99) := by rw [el]; rfl
  have g1 : q4_get lv 1 = some (.int (a1)) := by rw [el]; rfl
  have g2 : q4_get lv 2 = some (.int (a2)) := by rw [el]; rfl
  rw [← el] at h
  clear el
  replace h := qa_iload (n := 1) (q := 1) (qa_e rfl h) rfl g1
  replace h := qa_push (z := (116 : Int32)) (q := 3) (qa_e rfl h) rfl (by decide)
  obtain ⟨r2, er2⟩ : ∃ x, x = (ma_157_99 N (2 : Int32) σ) := ⟨_, rfl⟩
  obtain ⟨m3, em3⟩ : ∃ x, x = qa_u r2.2 116 a2.toNatClampNeg r2.1 := ⟨_, rfl⟩
  obtain ⟨r4, er4⟩ : ∃ x, x = (ma_157_99 N (1 : Int32) σ) := ⟨_, rfl⟩
  obtain ⟨m5, em5⟩ : ∃ x, x = qa_u r4.2 116 a2.toNatClampNeg r4.1 := ⟨_, rfl⟩
  obtain ⟨m6, em6⟩ : ∃ x, x = (if a1 = (116 : Int32) then m3 else m5) := ⟨_, rfl⟩
  obtain ⟨lv, M, h, hM, es, g0, g1, g2⟩ : ∃ lv M, q4_run f 156 31 lv [] M 0 0 = some r ∧ qa_O M ∧ qa_s M = m6 ∧ q4_get lv 0 = some (.ref 99) ∧ q4_get lv 1 = some (.int (a1)) ∧ q4_get lv 2 = some (.int (a2)) := by
    by_cases c1 : a1 = (116 : Int32)
    · replace h := qa_iff (q := 6) (qa_e rfl h) rfl (qa_F_ne c1)
      replace h := qa_aload (n := 0) (q := 7) (qa_e rfl h) rfl g0
      replace h := qa_gr (b := 116) (j := 23) (q := 10) (qa_e rfl h) rfl hM rfl (by decide)
      replace h := qa_iload (n := 2) (q := 11) (qa_e rfl h) rfl g2
      replace h := qa_aload (n := 0) (q := 12) (qa_e rfl h) rfl g0
      replace h := qa_push (z := (2 : Int32)) (q := 13) (qa_e rfl h) rfl (by decide)
      obtain ⟨M, h, hM, es⟩ := qa_c1 (y := 157) (as := [.ref 99, .int ((2 : Int32))]) (rest := [.int (a2), .ref 116]) (i := .invokevirtual 157) (q := 16) (qa_e rfl h) (Or.inl rfl) rfl rfl (by decide) rfl (fun r hc => mb_157_99 hN hM es hc)
      rw [← er2] at h es
      obtain ⟨M, h, hM, es⟩ := qa_iastore (jn := a2.toNatClampNeg) (q := 17) (qa_e rfl h) rfl hM es rfl
      rw [← em3] at es
      replace h := qa_goto (q := 31) (qa_e rfl h) rfl
      exact ⟨lv, M, h, hM, ((qa_ms1 c1 es).trans em6.symm), g0, g1, g2⟩
    · replace h := qa_ift (q := 20) (qa_e rfl h) rfl (qa_T_ne c1)
      replace h := qa_aload (n := 0) (q := 21) (qa_e rfl h) rfl g0
      replace h := qa_gr (b := 116) (j := 23) (q := 24) (qa_e rfl h) rfl hM rfl (by decide)
      replace h := qa_iload (n := 2) (q := 25) (qa_e rfl h) rfl g2
      replace h := qa_aload (n := 0) (q := 26) (qa_e rfl h) rfl g0
      replace h := qa_push (z := (1 : Int32)) (q := 27) (qa_e rfl h) rfl (by decide)
      obtain ⟨M, h, hM, es⟩ := qa_c1 (y := 157) (as := [.ref 99, .int ((1 : Int32))]) (rest := [.int (a2), .ref 116]) (i := .invokevirtual 157) (q := 30) (qa_e rfl h) (Or.inl rfl) rfl rfl (by decide) rfl (fun r hc => mb_157_99 hN hM es hc)
      rw [← er4] at h es
      obtain ⟨M, h, hM, es⟩ := qa_iastore (jn := a2.toNatClampNeg) (q := 31) (qa_e rfl h) rfl hM es rfl
      rw [← em5] at es
      exact ⟨lv, M, h, hM, ((qa_ms0 c1 es).trans em6.symm), g0, g1, g2⟩
  replace h := qa_aload (n := 0) (q := 32) (qa_e rfl h) rfl g0
  replace h := qa_gr (b := 116) (j := 23) (q := 35) (qa_e rfl h) rfl hM rfl (by decide)
  replace h := qa_iload (n := 2) (q := 36) (qa_e rfl h) rfl g2
  replace h := qa_push (z := (1 : Int32)) (q := 37) (qa_e rfl h) rfl (by decide)
  replace h := qa_iadd (q := 38) (qa_e rfl h) rfl
  replace h := qa_aload (n := 0) (q := 39) (qa_e rfl h) rfl g0
  replace h := qa_push (z := (1 : Int32)) (q := 40) (qa_e rfl h) rfl (by decide)
  obtain ⟨r7, er7⟩ : ∃ x, x = (ma_157_99 N (1 : Int32) m6) := ⟨_, rfl⟩
  obtain ⟨M, h, hM, es⟩ := qa_c1 (y := 157) (as := [.ref 99, .int ((1 : Int32))]) (rest := [.int ((a2 + (1 : Int32))), .ref 116]) (i := .invokevirtual 157) (q := 43) (qa_e rfl h) (Or.inl rfl) rfl rfl (by decide) rfl (fun r hc => mb_157_99 hN hM es hc)
  rw [← er7] at h es
  obtain ⟨m8, em8⟩ : ∃ x, x = qa_u r7.2 116 (a2 + (1 : Int32)).toNatClampNeg r7.1 := ⟨_, rfl⟩
  obtain ⟨M, h, hM, es⟩ := qa_iastore (jn := (a2 + (1 : Int32)).toNatClampNeg) (q := 44) (qa_e rfl h) rfl hM es rfl
  rw [← em8] at es
  replace h := qa_iload (n := 1) (q := 45) (qa_e rfl h) rfl g1
  replace h := qa_push (z := (115 : Int32)) (q := 47) (qa_e rfl h) rfl (by decide)
  obtain ⟨r11, er11⟩ : ∃ x, x = (ma_157_99 N (if a1 = (99 : Int32) then (4 : Int32) else (1 : Int32)) m8) := ⟨_, rfl⟩
  obtain ⟨m12, em12⟩ : ∃ x, x = qa_u r11.2 116 (a2 + (2 : Int32)).toNatClampNeg r11.1 := ⟨_, rfl⟩
  obtain ⟨m13, em13⟩ : ∃ x, x = (if a1 = (115 : Int32) then m8 else m12) := ⟨_, rfl⟩
  obtain ⟨lv, M, h, hM, es⟩ : ∃ lv M, q4_run f 156 73 lv [] M 0 0 = some r ∧ qa_O M ∧ qa_s M = m13 := by
    by_cases c9 : a1 = (115 : Int32)
    · replace h := qa_ift (q := 73) (qa_e rfl h) rfl (qa_T_eq c9)
      exact ⟨lv, M, h, hM, ((qa_ms1 c9 es).trans em13.symm)⟩
    · replace h := qa_iff (q := 50) (qa_e rfl h) rfl (qa_F_eq c9)
      replace h := qa_aload (n := 0) (q := 51) (qa_e rfl h) rfl g0
      replace h := qa_gr (b := 116) (j := 23) (q := 54) (qa_e rfl h) rfl hM rfl (by decide)
      replace h := qa_iload (n := 2) (q := 55) (qa_e rfl h) rfl g2
      replace h := qa_push (z := (2 : Int32)) (q := 56) (qa_e rfl h) rfl (by decide)
      replace h := qa_iadd (q := 57) (qa_e rfl h) rfl
      replace h := qa_aload (n := 0) (q := 58) (qa_e rfl h) rfl g0
      replace h := qa_iload (n := 1) (q := 59) (qa_e rfl h) rfl g1
      replace h := qa_push (z := (99 : Int32)) (q := 61) (qa_e rfl h) rfl (by decide)
      obtain ⟨lv, M, h, hM, es⟩ : ∃ lv M, q4_run f 156 69 lv [.int ((if a1 = (99 : Int32) then (4 : Int32) else (1 : Int32))), .ref 99, .int ((a2 + (2 : Int32))), .ref 116] M 0 0 = some r ∧ qa_O M ∧ qa_s M = m8 := by
        by_cases c10 : a1 = (99 : Int32)
        · replace h := qa_iff (q := 64) (qa_e rfl h) rfl (qa_F_ne c10)
          replace h := qa_push (z := (4 : Int32)) (q := 65) (qa_e rfl h) rfl (by decide)
          replace h := qa_goto (q := 69) (qa_e rfl h) rfl
          exact ⟨lv, M, (qa_hi1 c10 h), hM, es⟩
        · replace h := qa_ift (q := 68) (qa_e rfl h) rfl (qa_T_ne c10)
          replace h := qa_push (z := (1 : Int32)) (q := 69) (qa_e rfl h) rfl (by decide)
          exact ⟨lv, M, (qa_hi0 c10 h), hM, es⟩
      obtain ⟨M, h, hM, es⟩ := qa_c1 (y := 157) (as := [.ref 99, .int ((if a1 = (99 : Int32) then (4 : Int32) else (1 : Int32)))]) (rest := [.int ((a2 + (2 : Int32))), .ref 116]) (i := .invokevirtual 157) (q := 72) (qa_e rfl h) (Or.inl rfl) rfl rfl (by decide) rfl (fun r hc => mb_157_99 hN hM es hc)
      rw [← er11] at h es
      obtain ⟨M, h, hM, es⟩ := qa_iastore (jn := (a2 + (2 : Int32)).toNatClampNeg) (q := 73) (qa_e rfl h) rfl hM es rfl
      rw [← em12] at es
      exact ⟨lv, M, h, hM, ((qa_ms0 c9 es).trans em13.symm)⟩
  have er := qa_rv (qa_e rfl h)
  subst er
  have e0 : ma_156_99 N a1 a2 σ = m13 := by exact Eq.trans (qa_ie er2) (Eq.trans (qa_ie em3) (Eq.trans (qa_ie er4) (Eq.trans (qa_ie em5) (Eq.trans (qa_ie em6) (Eq.trans (qa_ie er7) (Eq.trans (qa_ie em8) (Eq.trans (qa_ie er11) (Eq.trans (qa_ie em12) (Eq.trans (qa_ie em13) (rfl))))))))))
  rw [e0]
  exact ⟨rfl, hM, es⟩
/-- BuriedBySevensModel, readStatement, ()V -/
noncomputable def ma_154_99 (N : Nat) (σ : qa_S) : qa_S :=
  qa_in (qa_u σ 114 (σ 99 20).toNatClampNeg (σ 99 18)) fun m1 =>
  qa_in (qa_u m1 115 (σ 99 20).toNatClampNeg (ma_155_99 σ)) fun m2 =>
  qa_in (qa_u m2 99 19 (if (m2 99 19) = (0 : Int32) then (if (ma_155_99 σ) = (99 : Int32) then (0 : Int32) else (if (ma_155_99 σ) = (115 : Int32) then (0 : Int32) else (if (ma_155_99 σ) = (116 : Int32) then (0 : Int32) else (if (ma_155_99 σ) = (109 : Int32) then (0 : Int32) else (1 : Int32))))) else (1 : Int32))) fun m8 =>
  qa_in (qa_u m8 99 18 ((m8 99 18) + (if (m8 99 19) = (0 : Int32) then (1 : Int32) else (0 : Int32)))) fun m10 =>
  qa_in ((ma_156_99 N (ma_155_99 σ) ((3 : Int32) * (σ 99 20)) m10)) fun m12 =>
  qa_in ((if (m10 99 19) = (0 : Int32) then m12 else m10)) fun m13 =>
  qa_in (qa_u m13 99 19 (if (m13 99 19) = (0 : Int32) then (if (ma_155_99 m13) = (59 : Int32) then (0 : Int32) else (1 : Int32)) else (1 : Int32))) fun m16 =>
  qa_in (qa_u m16 99 18 ((m16 99 18) + (if (m16 99 19) = (0 : Int32) then (1 : Int32) else (0 : Int32)))) fun m18 =>
  qa_in (qa_u m18 99 20 ((m18 99 20) + (1 : Int32))) fun m19 =>
  m19
theorem mb_154_99 {f N : Nat} (hN : f ≤ N) {M : q4_M} {r : Option Value × q4_M} {σ : qa_S} (hM : qa_O M) (es : qa_s M = σ) (h : q4_run f 154 0 (lv_args 0 [.ref 99]) [] M 0 0 = some r) : r.1 = none ∧ qa_O r.2 ∧ qa_s r.2 = (ma_154_99 N σ) := by
  obtain ⟨lv, el⟩ : ∃ l, l = lv_args 0 [.ref 99] := ⟨_, rfl⟩
  have g0 : q4_get lv 0 = some (.ref 99) := by rw [el]; rfl
  rw [← el] at h
  clear el
  replace h := qa_aload (n := 0) (q := 1) (qa_e rfl h) rfl g0
  replace h := qa_gi (j := 20) (q := 4) (qa_e rfl h) rfl hM es rfl (by decide)
  obtain ⟨lv, h, g, T⟩ := qa_istore (n := 1) (q := 5) (qa_e rfl h) rfl
  replace g0 := T _ _ g0 (by decide) (Or.inr rfl)
  have g1 := g
  clear g T
  replace h := qa_aload (n := 0) (q := 6) (qa_e rfl h) rfl g0
  obtain ⟨M, h, hM, es⟩ := qa_c1 (y := 155) (as := [.ref 99]) (rest := []) (i := .invokevirtual 155) (q := 9) (qa_e rfl h) (Or.inl rfl) rfl rfl (by decide) rfl (fun r hc => mb_155_99 hM es hc)
  obtain ⟨lv, h, g, T⟩ := qa_istore (n := 2) (q := 10) (qa_e rfl h) rfl
  replace g0 := T _ _ g0 (by decide) (Or.inr rfl)
  replace g1 := T _ _ g1 (by decide) (Or.inr rfl)
  have g2 := g
  clear g T
  replace h := qa_aload (n := 0) (q := 11) (qa_e rfl h) rfl g0
  replace h := qa_gr (b := 114) (j := 21) (q := 14) (qa_e rfl h) rfl hM rfl (by decide)
  replace h := qa_iload (n := 1) (q := 15) (qa_e rfl h) rfl g1
  replace h := qa_aload (n := 0) (q := 16) (qa_e rfl h) rfl g0
  replace h := qa_gi (j := 18) (q := 19) (qa_e rfl h) rfl hM es rfl (by decide)
  obtain ⟨m1, em1⟩ : ∃ x, x = qa_u σ 114 (σ 99 20).toNatClampNeg (σ 99 18) := ⟨_, rfl⟩
  obtain ⟨M, h, hM, es⟩ := qa_iastore (jn := (σ 99 20).toNatClampNeg) (q := 20) (qa_e rfl h) rfl hM es rfl
  rw [← em1] at es
  replace h := qa_aload (n := 0) (q := 21) (qa_e rfl h) rfl g0
  replace h := qa_gr (b := 115) (j := 22) (q := 24) (qa_e rfl h) rfl hM rfl (by decide)
  replace h := qa_iload (n := 1) (q := 25) (qa_e rfl h) rfl g1
  replace h := qa_iload (n := 2) (q := 26) (qa_e rfl h) rfl g2
  obtain ⟨m2, em2⟩ : ∃ x, x = qa_u m1 115 (σ 99 20).toNatClampNeg (ma_155_99 σ) := ⟨_, rfl⟩
  obtain ⟨M, h, hM, es⟩ := qa_iastore (jn := (σ 99 20).toNatClampNeg) (q := 27) (qa_e rfl h) rfl hM es rfl
  rw [← em2] at es
  replace h := qa_aload (n := 0) (q := 28) (qa_e rfl h) rfl g0
  replace h := qa_aload (n := 0) (q := 29) (qa_e rfl h) rfl g0
  replace h := qa_gi (j := 19) (q := 32) (qa_e rfl h) rfl hM es rfl (by decide)
  obtain ⟨lv, M, h, hM, es, g0, g1, g2⟩ : ∃ lv M, q4_run f 154 64 lv [.int ((if (m2 99 19) = (0 : Int32) then (if (ma_155_99 σ) = (99 : Int32) then (0 : Int32) else (if (ma_155_99 σ) = (115 : Int32) then (0 : Int32) else (if (ma_155_99 σ) = (116 : Int32) then (0 : Int32) else (if (ma_155_99 σ) = (109 : Int32) then (0 : Int32) else (1 : Int32))))) else (1 : Int32))), .ref 99] M 0 0 = some r ∧ qa_O M ∧ qa_s M = m2 ∧ q4_get lv 0 = some (.ref 99) ∧ q4_get lv 1 = some (.int ((σ 99 20))) ∧ q4_get lv 2 = some (.int ((ma_155_99 σ))) := by
    by_cases c3 : (m2 99 19) = (0 : Int32)
    · replace h := qa_icf (q := 35) (qa_e rfl h) rfl (qa_F_ne c3)
      replace h := qa_iload (n := 2) (q := 36) (qa_e rfl h) rfl g2
      replace h := qa_push (z := (99 : Int32)) (q := 38) (qa_e rfl h) rfl (by decide)
      obtain ⟨lv, M, h, hM, es, g0, g1, g2⟩ : ∃ lv M, q4_run f 154 64 lv [.int ((if (ma_155_99 σ) = (99 : Int32) then (0 : Int32) else (if (ma_155_99 σ) = (115 : Int32) then (0 : Int32) else (if (ma_155_99 σ) = (116 : Int32) then (0 : Int32) else (if (ma_155_99 σ) = (109 : Int32) then (0 : Int32) else (1 : Int32)))))), .ref 99] M 0 0 = some r ∧ qa_O M ∧ qa_s M = m2 ∧ q4_get lv 0 = some (.ref 99) ∧ q4_get lv 1 = some (.int ((σ 99 20))) ∧ q4_get lv 2 = some (.int ((ma_155_99 σ))) := by
        by_cases c4 : (ma_155_99 σ) = (99 : Int32)
        · replace h := qa_ift (q := 63) (qa_e rfl h) rfl (qa_T_eq c4)
          replace h := qa_push (z := (0 : Int32)) (q := 64) (qa_e rfl h) rfl (by decide)
          exact ⟨lv, M, (qa_hi1 c4 h), hM, es, g0, g1, g2⟩
        · replace h := qa_iff (q := 41) (qa_e rfl h) rfl (qa_F_eq c4)
          replace h := qa_iload (n := 2) (q := 42) (qa_e rfl h) rfl g2
          replace h := qa_push (z := (115 : Int32)) (q := 44) (qa_e rfl h) rfl (by decide)
          obtain ⟨lv, M, h, hM, es, g0, g1, g2⟩ : ∃ lv M, q4_run f 154 64 lv [.int ((if (ma_155_99 σ) = (115 : Int32) then (0 : Int32) else (if (ma_155_99 σ) = (116 : Int32) then (0 : Int32) else (if (ma_155_99 σ) = (109 : Int32) then (0 : Int32) else (1 : Int32))))), .ref 99] M 0 0 = some r ∧ qa_O M ∧ qa_s M = m2 ∧ q4_get lv 0 = some (.ref 99) ∧ q4_get lv 1 = some (.int ((σ 99 20))) ∧ q4_get lv 2 = some (.int ((ma_155_99 σ))) := by
            by_cases c5 : (ma_155_99 σ) = (115 : Int32)
            · replace h := qa_ift (q := 63) (qa_e rfl h) rfl (qa_T_eq c5)
              replace h := qa_push (z := (0 : Int32)) (q := 64) (qa_e rfl h) rfl (by decide)
              exact ⟨lv, M, (qa_hi1 c5 h), hM, es, g0, g1, g2⟩
            · replace h := qa_iff (q := 47) (qa_e rfl h) rfl (qa_F_eq c5)
              replace h := qa_iload (n := 2) (q := 48) (qa_e rfl h) rfl g2
              replace h := qa_push (z := (116 : Int32)) (q := 50) (qa_e rfl h) rfl (by decide)
              obtain ⟨lv, M, h, hM, es, g0, g1, g2⟩ : ∃ lv M, q4_run f 154 64 lv [.int ((if (ma_155_99 σ) = (116 : Int32) then (0 : Int32) else (if (ma_155_99 σ) = (109 : Int32) then (0 : Int32) else (1 : Int32)))), .ref 99] M 0 0 = some r ∧ qa_O M ∧ qa_s M = m2 ∧ q4_get lv 0 = some (.ref 99) ∧ q4_get lv 1 = some (.int ((σ 99 20))) ∧ q4_get lv 2 = some (.int ((ma_155_99 σ))) := by
                by_cases c6 : (ma_155_99 σ) = (116 : Int32)
                · replace h := qa_ift (q := 63) (qa_e rfl h) rfl (qa_T_eq c6)
                  replace h := qa_push (z := (0 : Int32)) (q := 64) (qa_e rfl h) rfl (by decide)
                  exact ⟨lv, M, (qa_hi1 c6 h), hM, es, g0, g1, g2⟩
                · replace h := qa_iff (q := 53) (qa_e rfl h) rfl (qa_F_eq c6)
                  replace h := qa_iload (n := 2) (q := 54) (qa_e rfl h) rfl g2
                  replace h := qa_push (z := (109 : Int32)) (q := 56) (qa_e rfl h) rfl (by decide)
                  obtain ⟨lv, M, h, hM, es, g0, g1, g2⟩ : ∃ lv M, q4_run f 154 64 lv [.int ((if (ma_155_99 σ) = (109 : Int32) then (0 : Int32) else (1 : Int32))), .ref 99] M 0 0 = some r ∧ qa_O M ∧ qa_s M = m2 ∧ q4_get lv 0 = some (.ref 99) ∧ q4_get lv 1 = some (.int ((σ 99 20))) ∧ q4_get lv 2 = some (.int ((ma_155_99 σ))) := by
                    by_cases c7 : (ma_155_99 σ) = (109 : Int32)
                    · replace h := qa_ift (q := 63) (qa_e rfl h) rfl (qa_T_eq c7)
                      replace h := qa_push (z := (0 : Int32)) (q := 64) (qa_e rfl h) rfl (by decide)
                      exact ⟨lv, M, (qa_hi1 c7 h), hM, es, g0, g1, g2⟩
                    · replace h := qa_iff (q := 59) (qa_e rfl h) rfl (qa_F_eq c7)
                      replace h := qa_push (z := (1 : Int32)) (q := 60) (qa_e rfl h) rfl (by decide)
                      replace h := qa_goto (q := 64) (qa_e rfl h) rfl
                      exact ⟨lv, M, (qa_hi0 c7 h), hM, es, g0, g1, g2⟩
                  exact ⟨lv, M, (qa_hi0 c6 h), hM, es, g0, g1, g2⟩
              exact ⟨lv, M, (qa_hi0 c5 h), hM, es, g0, g1, g2⟩
          exact ⟨lv, M, (qa_hi0 c4 h), hM, es, g0, g1, g2⟩
      exact ⟨lv, M, (qa_hi1 c3 h), hM, es, g0, g1, g2⟩
    · replace h := qa_ict (q := 59) (qa_e rfl h) rfl (qa_T_ne c3)
      replace h := qa_push (z := (1 : Int32)) (q := 60) (qa_e rfl h) rfl (by decide)
      replace h := qa_goto (q := 64) (qa_e rfl h) rfl
      exact ⟨lv, M, (qa_hi0 c3 h), hM, es, g0, g1, g2⟩
  obtain ⟨m8, em8⟩ : ∃ x, x = qa_u m2 99 19 (if (m2 99 19) = (0 : Int32) then (if (ma_155_99 σ) = (99 : Int32) then (0 : Int32) else (if (ma_155_99 σ) = (115 : Int32) then (0 : Int32) else (if (ma_155_99 σ) = (116 : Int32) then (0 : Int32) else (if (ma_155_99 σ) = (109 : Int32) then (0 : Int32) else (1 : Int32))))) else (1 : Int32)) := ⟨_, rfl⟩
  obtain ⟨M, h, hM, es⟩ := qa_pf (j := 19) (q := 67) (qa_e rfl h) rfl hM es rfl (by decide)
  rw [← em8] at es
  replace h := qa_aload (n := 0) (q := 68) (qa_e rfl h) rfl g0
  replace h := qa_dupa (q := 69) (qa_e rfl h) rfl
  replace h := qa_gi (j := 18) (q := 72) (qa_e rfl h) rfl hM es rfl (by decide)
  replace h := qa_aload (n := 0) (q := 73) (qa_e rfl h) rfl g0
  replace h := qa_gi (j := 19) (q := 76) (qa_e rfl h) rfl hM es rfl (by decide)
  obtain ⟨lv, M, h, hM, es, g0, g1, g2⟩ : ∃ lv M, q4_run f 154 84 lv [.int ((if (m8 99 19) = (0 : Int32) then (1 : Int32) else (0 : Int32))), .int ((m8 99 18)), .ref 99] M 0 0 = some r ∧ qa_O M ∧ qa_s M = m8 ∧ q4_get lv 0 = some (.ref 99) ∧ q4_get lv 1 = some (.int ((σ 99 20))) ∧ q4_get lv 2 = some (.int ((ma_155_99 σ))) := by
    by_cases c9 : (m8 99 19) = (0 : Int32)
    · replace h := qa_ict (q := 83) (qa_e rfl h) rfl (qa_T_eq c9)
      replace h := qa_push (z := (1 : Int32)) (q := 84) (qa_e rfl h) rfl (by decide)
      exact ⟨lv, M, (qa_hi1 c9 h), hM, es, g0, g1, g2⟩
    · replace h := qa_icf (q := 79) (qa_e rfl h) rfl (qa_F_eq c9)
      replace h := qa_push (z := (0 : Int32)) (q := 80) (qa_e rfl h) rfl (by decide)
      replace h := qa_goto (q := 84) (qa_e rfl h) rfl
      exact ⟨lv, M, (qa_hi0 c9 h), hM, es, g0, g1, g2⟩
  replace h := qa_iadd (q := 85) (qa_e rfl h) rfl
  obtain ⟨m10, em10⟩ : ∃ x, x = qa_u m8 99 18 ((m8 99 18) + (if (m8 99 19) = (0 : Int32) then (1 : Int32) else (0 : Int32))) := ⟨_, rfl⟩
  obtain ⟨M, h, hM, es⟩ := qa_pf (j := 18) (q := 88) (qa_e rfl h) rfl hM es rfl (by decide)
  rw [← em10] at es
  replace h := qa_aload (n := 0) (q := 89) (qa_e rfl h) rfl g0
  replace h := qa_gi (j := 19) (q := 92) (qa_e rfl h) rfl hM es rfl (by decide)
  obtain ⟨m12, em12⟩ : ∃ x, x = (ma_156_99 N (ma_155_99 σ) ((3 : Int32) * (σ 99 20)) m10) := ⟨_, rfl⟩
  obtain ⟨m13, em13⟩ : ∃ x, x = (if (m10 99 19) = (0 : Int32) then m12 else m10) := ⟨_, rfl⟩
  obtain ⟨lv, M, h, hM, es, g0⟩ : ∃ lv M, q4_run f 154 103 lv [] M 0 0 = some r ∧ qa_O M ∧ qa_s M = m13 ∧ q4_get lv 0 = some (.ref 99) := by
    by_cases c11 : (m10 99 19) = (0 : Int32)
    · replace h := qa_icf (q := 95) (qa_e rfl h) rfl (qa_F_ne c11)
      replace h := qa_aload (n := 0) (q := 96) (qa_e rfl h) rfl g0
      replace h := qa_iload (n := 2) (q := 97) (qa_e rfl h) rfl g2
      replace h := qa_push (z := (3 : Int32)) (q := 98) (qa_e rfl h) rfl (by decide)
      replace h := qa_iload (n := 1) (q := 99) (qa_e rfl h) rfl g1
      replace h := qa_imul (q := 100) (qa_e rfl h) rfl
      obtain ⟨M, h, hM, es⟩ := qa_c0 (y := 156) (as := [.ref 99, .int ((ma_155_99 σ)), .int (((3 : Int32) * (σ 99 20)))]) (rest := []) (i := .invokevirtual 156) (q := 103) (qa_e rfl h) (Or.inl rfl) rfl rfl (by decide) rfl (fun r hc => mb_156_99 hN hM es hc)
      rw [← em12] at es
      exact ⟨lv, M, h, hM, ((qa_ms1 c11 es).trans em13.symm), g0⟩
    · replace h := qa_ict (q := 103) (qa_e rfl h) rfl (qa_T_ne c11)
      exact ⟨lv, M, h, hM, ((qa_ms0 c11 es).trans em13.symm), g0⟩
  replace h := qa_aload (n := 0) (q := 104) (qa_e rfl h) rfl g0
  replace h := qa_aload (n := 0) (q := 105) (qa_e rfl h) rfl g0
  replace h := qa_gi (j := 19) (q := 108) (qa_e rfl h) rfl hM es rfl (by decide)
  obtain ⟨lv, M, h, hM, es, g0⟩ : ∃ lv M, q4_run f 154 125 lv [.int ((if (m13 99 19) = (0 : Int32) then (if (ma_155_99 m13) = (59 : Int32) then (0 : Int32) else (1 : Int32)) else (1 : Int32))), .ref 99] M 0 0 = some r ∧ qa_O M ∧ qa_s M = m13 ∧ q4_get lv 0 = some (.ref 99) := by
    by_cases c14 : (m13 99 19) = (0 : Int32)
    · replace h := qa_icf (q := 111) (qa_e rfl h) rfl (qa_F_ne c14)
      replace h := qa_aload (n := 0) (q := 112) (qa_e rfl h) rfl g0
      obtain ⟨M, h, hM, es⟩ := qa_c1 (y := 155) (as := [.ref 99]) (rest := [.ref 99]) (i := .invokevirtual 155) (q := 115) (qa_e rfl h) (Or.inl rfl) rfl rfl (by decide) rfl (fun r hc => mb_155_99 hM es hc)
      replace h := qa_push (z := (59 : Int32)) (q := 117) (qa_e rfl h) rfl (by decide)
      obtain ⟨lv, M, h, hM, es, g0⟩ : ∃ lv M, q4_run f 154 125 lv [.int ((if (ma_155_99 m13) = (59 : Int32) then (0 : Int32) else (1 : Int32))), .ref 99] M 0 0 = some r ∧ qa_O M ∧ qa_s M = m13 ∧ q4_get lv 0 = some (.ref 99) := by
        by_cases c15 : (ma_155_99 m13) = (59 : Int32)
        · replace h := qa_ift (q := 124) (qa_e rfl h) rfl (qa_T_eq c15)
          replace h := qa_push (z := (0 : Int32)) (q := 125) (qa_e rfl h) rfl (by decide)
          exact ⟨lv, M, (qa_hi1 c15 h), hM, es, g0⟩
        · replace h := qa_iff (q := 120) (qa_e rfl h) rfl (qa_F_eq c15)
          replace h := qa_push (z := (1 : Int32)) (q := 121) (qa_e rfl h) rfl (by decide)
          replace h := qa_goto (q := 125) (qa_e rfl h) rfl
          exact ⟨lv, M, (qa_hi0 c15 h), hM, es, g0⟩
      exact ⟨lv, M, (qa_hi1 c14 h), hM, es, g0⟩
    · replace h := qa_ict (q := 120) (qa_e rfl h) rfl (qa_T_ne c14)
      replace h := qa_push (z := (1 : Int32)) (q := 121) (qa_e rfl h) rfl (by decide)
      replace h := qa_goto (q := 125) (qa_e rfl h) rfl
      exact ⟨lv, M, (qa_hi0 c14 h), hM, es, g0⟩
  obtain ⟨m16, em16⟩ : ∃ x, x = qa_u m13 99 19 (if (m13 99 19) = (0 : Int32) then (if (ma_155_99 m13) = (59 : Int32) then (0 : Int32) else (1 : Int32)) else (1 : Int32)) := ⟨_, rfl⟩
  obtain ⟨M, h, hM, es⟩ := qa_pf (j := 19) (q := 128) (qa_e rfl h) rfl hM es rfl (by decide)
  rw [← em16] at es
  replace h := qa_aload (n := 0) (q := 129) (qa_e rfl h) rfl g0
  replace h := qa_dupa (q := 130) (qa_e rfl h) rfl
  replace h := qa_gi (j := 18) (q := 133) (qa_e rfl h) rfl hM es rfl (by decide)
  replace h := qa_aload (n := 0) (q := 134) (qa_e rfl h) rfl g0
  replace h := qa_gi (j := 19) (q := 137) (qa_e rfl h) rfl hM es rfl (by decide)
  obtain ⟨lv, M, h, hM, es, g0⟩ : ∃ lv M, q4_run f 154 145 lv [.int ((if (m16 99 19) = (0 : Int32) then (1 : Int32) else (0 : Int32))), .int ((m16 99 18)), .ref 99] M 0 0 = some r ∧ qa_O M ∧ qa_s M = m16 ∧ q4_get lv 0 = some (.ref 99) := by
    by_cases c17 : (m16 99 19) = (0 : Int32)
    · replace h := qa_ict (q := 144) (qa_e rfl h) rfl (qa_T_eq c17)
      replace h := qa_push (z := (1 : Int32)) (q := 145) (qa_e rfl h) rfl (by decide)
      exact ⟨lv, M, (qa_hi1 c17 h), hM, es, g0⟩
    · replace h := qa_icf (q := 140) (qa_e rfl h) rfl (qa_F_eq c17)
      replace h := qa_push (z := (0 : Int32)) (q := 141) (qa_e rfl h) rfl (by decide)
      replace h := qa_goto (q := 145) (qa_e rfl h) rfl
      exact ⟨lv, M, (qa_hi0 c17 h), hM, es, g0⟩
  replace h := qa_iadd (q := 146) (qa_e rfl h) rfl
  obtain ⟨m18, em18⟩ : ∃ x, x = qa_u m16 99 18 ((m16 99 18) + (if (m16 99 19) = (0 : Int32) then (1 : Int32) else (0 : Int32))) := ⟨_, rfl⟩
  obtain ⟨M, h, hM, es⟩ := qa_pf (j := 18) (q := 149) (qa_e rfl h) rfl hM es rfl (by decide)
  rw [← em18] at es
  replace h := qa_aload (n := 0) (q := 150) (qa_e rfl h) rfl g0
  replace h := qa_dupa (q := 151) (qa_e rfl h) rfl
  replace h := qa_gi (j := 20) (q := 154) (qa_e rfl h) rfl hM es rfl (by decide)
  replace h := qa_push (z := (1 : Int32)) (q := 155) (qa_e rfl h) rfl (by decide)
  replace h := qa_iadd (q := 156) (qa_e rfl h) rfl
  obtain ⟨m19, em19⟩ : ∃ x, x = qa_u m18 99 20 ((m18 99 20) + (1 : Int32)) := ⟨_, rfl⟩
  obtain ⟨M, h, hM, es⟩ := qa_pf (j := 20) (q := 159) (qa_e rfl h) rfl hM es rfl (by decide)
  rw [← em19] at es
  have er := qa_rv (qa_e rfl h)
  subst er
  have e0 : ma_154_99 N σ = m19 := by exact Eq.trans (qa_ie em1) (Eq.trans (qa_ie em2) (Eq.trans (qa_ie em8) (Eq.trans (qa_ie em10) (Eq.trans (qa_ie em12) (Eq.trans (qa_ie em13) (Eq.trans (qa_ie em16) (Eq.trans (qa_ie em18) (Eq.trans (qa_ie em19) (rfl)))))))))
  rw [e0]
  exact ⟨rfl, hM, es⟩
noncomputable def mc_153_99_p20 (N : Nat) (s : qa_S) : (qa_S) ⊕ (qa_S) :=
  if (s 99 19) = (0 : Int32) then
    if (s 99 20) = (0 : Int32) then
      qa_in ((ma_154_99 N s)) fun m3 =>
      .inl m3
    else
      if (s 99 18) < (s 99 17) then
        qa_in ((ma_154_99 N s)) fun m5 =>
        .inl m5
      else
        .inr s
  else
    .inr s
theorem md_153_99_p20 {N F : Nat} {r : Option Value × q4_M} (hN : F ≤ N) : ∀ f n, f ≤ n → f ≤ F → ∀ (s : qa_S) (lv : List (Nat × Value)) (M : q4_M), qa_O M → qa_s M = s → q4_get lv 0 = some (.ref 99) → q4_run f 153 20 lv [] M 0 0 = some r → ∃ lv M, q4_run F 153 52 lv [] M 0 0 = some r ∧ qa_O M ∧ qa_s M = (qa_wh (fun s => s) (mc_153_99_p20 N) n s) ∧ q4_get lv 0 = some (.ref 99) := by
  intro f
  induction f with
  | zero => intro n _ _ s lv M hM es _ h; cases h
  | succ f ih =>
    intro n hn hF s lv M hM es g0 h
    obtain ⟨n, rfl⟩ : ∃ n1, n = n1 + 1 := ⟨n - 1, by omega⟩
    replace hn : f ≤ n := Nat.le_of_succ_le_succ hn
    have hN := Nat.le_trans (Nat.le_of_succ_le hF) hN
    replace h := qa_aload (n := 0) (q := 21) (qa_d rfl h) rfl g0
    replace h := qa_gi (j := 19) (q := 24) (qa_e rfl h) rfl hM es rfl (by decide)
    by_cases c1 : (s 99 19) = (0 : Int32)
    · replace h := qa_icf (q := 27) (qa_e rfl h) rfl (qa_F_ne c1)
      replace h := qa_aload (n := 0) (q := 28) (qa_e rfl h) rfl g0
      replace h := qa_gi (j := 20) (q := 31) (qa_e rfl h) rfl hM es rfl (by decide)
      by_cases c2 : (s 99 20) = (0 : Int32)
      · replace h := qa_ict (q := 45) (qa_e rfl h) rfl (qa_T_eq c2)
        replace h := qa_aload (n := 0) (q := 46) (qa_e rfl h) rfl g0
        obtain ⟨m3, em3⟩ : ∃ x, x = (ma_154_99 N s) := ⟨_, rfl⟩
        obtain ⟨M, h, hM, es⟩ := qa_c0 (y := 154) (as := [.ref 99]) (rest := []) (i := .invokevirtual 154) (q := 49) (qa_e rfl h) (Or.inl rfl) rfl rfl (by decide) rfl (fun r hc => mb_154_99 hN hM es hc)
        rw [← em3] at es
        replace h := qa_goto (q := 20) (qa_e rfl h) rfl
        have e0 : mc_153_99_p20 N s = .inl m3 := by exact Eq.trans (if_pos c1) (Eq.trans (if_pos c2) (Eq.trans (qa_ie em3) (rfl)))
        rw [qa_whl e0]
        exact ih n hn (Nat.le_of_succ_le hF) m3 _ _ hM es g0 h
      · replace h := qa_icf (q := 34) (qa_e rfl h) rfl (qa_F_eq c2)
        replace h := qa_aload (n := 0) (q := 35) (qa_e rfl h) rfl g0
        replace h := qa_gi (j := 18) (q := 38) (qa_e rfl h) rfl hM es rfl (by decide)
        replace h := qa_aload (n := 0) (q := 39) (qa_e rfl h) rfl g0
        replace h := qa_gi (j := 17) (q := 42) (qa_e rfl h) rfl hM es rfl (by decide)
        by_cases c4 : (s 99 18) < (s 99 17)
        · replace h := qa_iff (q := 45) (qa_e rfl h) rfl (qa_F_ge c4)
          replace h := qa_aload (n := 0) (q := 46) (qa_e rfl h) rfl g0
          obtain ⟨m5, em5⟩ : ∃ x, x = (ma_154_99 N s) := ⟨_, rfl⟩
          obtain ⟨M, h, hM, es⟩ := qa_c0 (y := 154) (as := [.ref 99]) (rest := []) (i := .invokevirtual 154) (q := 49) (qa_e rfl h) (Or.inl rfl) rfl rfl (by decide) rfl (fun r hc => mb_154_99 hN hM es hc)
          rw [← em5] at es
          replace h := qa_goto (q := 20) (qa_e rfl h) rfl
          have e0 : mc_153_99_p20 N s = .inl m5 := by exact Eq.trans (if_pos c1) (Eq.trans (if_neg c2) (Eq.trans (if_pos c4) (Eq.trans (qa_ie em5) (rfl))))
          rw [qa_whl e0]
          exact ih n hn (Nat.le_of_succ_le hF) m5 _ _ hM es g0 h
        · replace h := qa_ift (q := 52) (qa_e rfl h) rfl (qa_T_ge c4)
          have e0 : mc_153_99_p20 N s = .inr s := by exact Eq.trans (if_pos c1) (Eq.trans (if_neg c2) (Eq.trans (if_neg c4) (rfl)))
          rw [qa_whr e0]
          exact ⟨_, _, q61_mono f F _ _ _ _ _ _ _ _ (Nat.le_of_succ_le hF) h, hM, es, g0⟩
    · replace h := qa_ict (q := 52) (qa_e rfl h) rfl (qa_T_ne c1)
      have e0 : mc_153_99_p20 N s = .inr s := by exact Eq.trans (if_neg c1) (rfl)
      rw [qa_whr e0]
      exact ⟨_, _, q61_mono f F _ _ _ _ _ _ _ _ (Nat.le_of_succ_le hF) h, hM, es, g0⟩
noncomputable def mc_159_99_117_p41 (N : Nat) (s : Int32 × qa_S) : (Int32 × qa_S) ⊕ (Int32 × qa_S) :=
  if s.1 < (7 : Int32) then
    qa_in ((ma_160_99 (s.2 100 s.1.toNatClampNeg) s.2)) fun r2 =>
    qa_in (qa_u r2.2 100 s.1.toNatClampNeg r2.1) fun m3 =>
    qa_in ((ma_160_99 (m3 101 s.1.toNatClampNeg) m3)) fun r4 =>
    qa_in (qa_u r4.2 101 s.1.toNatClampNeg r4.1) fun m5 =>
    qa_in ((ma_160_99 (m5 103 s.1.toNatClampNeg) m5)) fun r6 =>
    qa_in (qa_u r6.2 103 s.1.toNatClampNeg r6.1) fun m7 =>
    .inl ((s.1 + (1 : Int32)), m7)
  else
    .inr (s.1, s.2)
theorem md_159_99_117_p41 {N F : Nat} {r : Option Value × q4_M} (hN : F ≤ N) : ∀ f n, f ≤ n → f ≤ F → ∀ (s : Int32 × qa_S) (lv : List (Nat × Value)) (M : q4_M), qa_O M → qa_s M = s.2 → q4_get lv 0 = some (.ref 99) → q4_get lv 3 = some (.int (s.1)) → q4_run f 159 41 lv [] M 0 0 = some r → ∃ lv M, q4_run F 159 101 lv [] M 0 0 = some r ∧ qa_O M ∧ qa_s M = (qa_wh (fun s => s) (mc_159_99_117_p41 N) n s).2 ∧ q4_get lv 0 = some (.ref 99) := by
  intro f
  induction f with
  | zero => intro n _ _ s lv M hM es _ _ h; cases h
  | succ f ih =>
    intro n hn hF s lv M hM es g0 g3 h
    obtain ⟨n, rfl⟩ : ∃ n1, n = n1 + 1 := ⟨n - 1, by omega⟩
    replace hn : f ≤ n := Nat.le_of_succ_le_succ hn
    have hN := Nat.le_trans (Nat.le_of_succ_le hF) hN
    replace h := qa_iload (n := 3) (q := 42) (qa_d rfl h) rfl g3
    replace h := qa_push (z := (7 : Int32)) (q := 44) (qa_e rfl h) rfl (by decide)
    by_cases c1 : s.1 < (7 : Int32)
    · replace h := qa_iff (q := 47) (qa_e rfl h) rfl (qa_F_ge c1)
      replace h := qa_aload (n := 0) (q := 48) (qa_e rfl h) rfl g0
      replace h := qa_gr (b := 100) (j := 1) (q := 51) (qa_e rfl h) rfl hM rfl (by decide)
      replace h := qa_iload (n := 3) (q := 52) (qa_e rfl h) rfl g3
      replace h := qa_aload (n := 0) (q := 53) (qa_e rfl h) rfl g0
      replace h := qa_aload (n := 0) (q := 54) (qa_e rfl h) rfl g0
      replace h := qa_gr (b := 100) (j := 1) (q := 57) (qa_e rfl h) rfl hM rfl (by decide)
      replace h := qa_iload (n := 3) (q := 58) (qa_e rfl h) rfl g3
      replace h := qa_iaload (jn := s.1.toNatClampNeg) (q := 59) (qa_e rfl h) rfl hM es rfl
      obtain ⟨r2, er2⟩ : ∃ x, x = (ma_160_99 (s.2 100 s.1.toNatClampNeg) s.2) := ⟨_, rfl⟩
      obtain ⟨M, h, hM, es⟩ := qa_c1 (y := 160) (as := [.ref 99, .int ((s.2 100 s.1.toNatClampNeg))]) (rest := [.int (s.1), .ref 100]) (i := .invokevirtual 160) (q := 62) (qa_e rfl h) (Or.inl rfl) rfl rfl (by decide) rfl (fun r hc => mb_160_99 hM es hc)
      rw [← er2] at h es
      obtain ⟨m3, em3⟩ : ∃ x, x = qa_u r2.2 100 s.1.toNatClampNeg r2.1 := ⟨_, rfl⟩
      obtain ⟨M, h, hM, es⟩ := qa_iastore (jn := s.1.toNatClampNeg) (q := 63) (qa_e rfl h) rfl hM es rfl
      rw [← em3] at es
      replace h := qa_aload (n := 0) (q := 64) (qa_e rfl h) rfl g0
      replace h := qa_gr (b := 101) (j := 2) (q := 67) (qa_e rfl h) rfl hM rfl (by decide)
      replace h := qa_iload (n := 3) (q := 68) (qa_e rfl h) rfl g3
      replace h := qa_aload (n := 0) (q := 69) (qa_e rfl h) rfl g0
      replace h := qa_aload (n := 0) (q := 70) (qa_e rfl h) rfl g0
      replace h := qa_gr (b := 101) (j := 2) (q := 73) (qa_e rfl h) rfl hM rfl (by decide)
      replace h := qa_iload (n := 3) (q := 74) (qa_e rfl h) rfl g3
      replace h := qa_iaload (jn := s.1.toNatClampNeg) (q := 75) (qa_e rfl h) rfl hM es rfl
      obtain ⟨r4, er4⟩ : ∃ x, x = (ma_160_99 (m3 101 s.1.toNatClampNeg) m3) := ⟨_, rfl⟩
      obtain ⟨M, h, hM, es⟩ := qa_c1 (y := 160) (as := [.ref 99, .int ((m3 101 s.1.toNatClampNeg))]) (rest := [.int (s.1), .ref 101]) (i := .invokevirtual 160) (q := 78) (qa_e rfl h) (Or.inl rfl) rfl rfl (by decide) rfl (fun r hc => mb_160_99 hM es hc)
      rw [← er4] at h es
      obtain ⟨m5, em5⟩ : ∃ x, x = qa_u r4.2 101 s.1.toNatClampNeg r4.1 := ⟨_, rfl⟩
      obtain ⟨M, h, hM, es⟩ := qa_iastore (jn := s.1.toNatClampNeg) (q := 79) (qa_e rfl h) rfl hM es rfl
      rw [← em5] at es
      replace h := qa_aload (n := 0) (q := 80) (qa_e rfl h) rfl g0
      replace h := qa_gr (b := 103) (j := 4) (q := 83) (qa_e rfl h) rfl hM rfl (by decide)
      replace h := qa_iload (n := 3) (q := 84) (qa_e rfl h) rfl g3
      replace h := qa_aload (n := 0) (q := 85) (qa_e rfl h) rfl g0
      replace h := qa_aload (n := 0) (q := 86) (qa_e rfl h) rfl g0
      replace h := qa_gr (b := 103) (j := 4) (q := 89) (qa_e rfl h) rfl hM rfl (by decide)
      replace h := qa_iload (n := 3) (q := 90) (qa_e rfl h) rfl g3
      replace h := qa_iaload (jn := s.1.toNatClampNeg) (q := 91) (qa_e rfl h) rfl hM es rfl
      obtain ⟨r6, er6⟩ : ∃ x, x = (ma_160_99 (m5 103 s.1.toNatClampNeg) m5) := ⟨_, rfl⟩
      obtain ⟨M, h, hM, es⟩ := qa_c1 (y := 160) (as := [.ref 99, .int ((m5 103 s.1.toNatClampNeg))]) (rest := [.int (s.1), .ref 103]) (i := .invokevirtual 160) (q := 94) (qa_e rfl h) (Or.inl rfl) rfl rfl (by decide) rfl (fun r hc => mb_160_99 hM es hc)
      rw [← er6] at h es
      obtain ⟨m7, em7⟩ : ∃ x, x = qa_u r6.2 103 s.1.toNatClampNeg r6.1 := ⟨_, rfl⟩
      obtain ⟨M, h, hM, es⟩ := qa_iastore (jn := s.1.toNatClampNeg) (q := 95) (qa_e rfl h) rfl hM es rfl
      rw [← em7] at es
      obtain ⟨lv, h, g, T⟩ := qa_iinc (n := 3) (z := (1 : Int32)) (q := 98) (qa_e rfl h) rfl (by decide) g3
      replace g0 := T _ _ g0 (by decide) (Or.inr rfl)
      replace g3 := g
      clear g T
      replace h := qa_goto (q := 41) (qa_e rfl h) rfl
      have e0 : mc_159_99_117_p41 N s = .inl ((s.1 + (1 : Int32)), m7) := by exact Eq.trans (if_pos c1) (Eq.trans (qa_ie er2) (Eq.trans (qa_ie em3) (Eq.trans (qa_ie er4) (Eq.trans (qa_ie em5) (Eq.trans (qa_ie er6) (Eq.trans (qa_ie em7) (rfl)))))))
      rw [qa_whl e0]
      exact ih n hn (Nat.le_of_succ_le hF) ((s.1 + (1 : Int32)), m7) _ _ hM es g0 g3 h
    · replace h := qa_ift (q := 101) (qa_e rfl h) rfl (qa_T_ge c1)
      have e0 : mc_159_99_117_p41 N s = .inr (s.1, s.2) := by exact Eq.trans (if_neg c1) (rfl)
      rw [qa_whr e0]
      exact ⟨_, _, q61_mono f F _ _ _ _ _ _ _ _ (Nat.le_of_succ_le hF) h, hM, es, g0⟩
noncomputable def mc_159_99_117_p103 (N : Nat) (s : Int32 × qa_S) : (Int32 × qa_S) ⊕ (Int32 × qa_S) :=
  if s.1 < (28 : Int32) then
    qa_in ((ma_160_99 (s.2 102 s.1.toNatClampNeg) s.2)) fun r2 =>
    qa_in (qa_u r2.2 102 s.1.toNatClampNeg r2.1) fun m3 =>
    .inl ((s.1 + (1 : Int32)), m3)
  else
    .inr (s.1, s.2)
theorem md_159_99_117_p103 {N F : Nat} {r : Option Value × q4_M} (hN : F ≤ N) : ∀ f n, f ≤ n → f ≤ F → ∀ (s : Int32 × qa_S) (lv : List (Nat × Value)) (M : q4_M), qa_O M → qa_s M = s.2 → q4_get lv 0 = some (.ref 99) → q4_get lv 3 = some (.int (s.1)) → q4_run f 159 103 lv [] M 0 0 = some r → ∃ lv M, q4_run F 159 131 lv [] M 0 0 = some r ∧ qa_O M ∧ qa_s M = (qa_wh (fun s => s) (mc_159_99_117_p103 N) n s).2 ∧ q4_get lv 0 = some (.ref 99) := by
  intro f
  induction f with
  | zero => intro n _ _ s lv M hM es _ _ h; cases h
  | succ f ih =>
    intro n hn hF s lv M hM es g0 g3 h
    obtain ⟨n, rfl⟩ : ∃ n1, n = n1 + 1 := ⟨n - 1, by omega⟩
    replace hn : f ≤ n := Nat.le_of_succ_le_succ hn
    have hN := Nat.le_trans (Nat.le_of_succ_le hF) hN
    replace h := qa_iload (n := 3) (q := 104) (qa_d rfl h) rfl g3
    replace h := qa_push (z := (28 : Int32)) (q := 106) (qa_e rfl h) rfl (by decide)
    by_cases c1 : s.1 < (28 : Int32)
    · replace h := qa_iff (q := 109) (qa_e rfl h) rfl (qa_F_ge c1)
      replace h := qa_aload (n := 0) (q := 110) (qa_e rfl h) rfl g0
      replace h := qa_gr (b := 102) (j := 3) (q := 113) (qa_e rfl h) rfl hM rfl (by decide)
      replace h := qa_iload (n := 3) (q := 114) (qa_e rfl h) rfl g3
      replace h := qa_aload (n := 0) (q := 115) (qa_e rfl h) rfl g0
      replace h := qa_aload (n := 0) (q := 116) (qa_e rfl h) rfl g0
      replace h := qa_gr (b := 102) (j := 3) (q := 119) (qa_e rfl h) rfl hM rfl (by decide)
      replace h := qa_iload (n := 3) (q := 120) (qa_e rfl h) rfl g3
      replace h := qa_iaload (jn := s.1.toNatClampNeg) (q := 121) (qa_e rfl h) rfl hM es rfl
      obtain ⟨r2, er2⟩ : ∃ x, x = (ma_160_99 (s.2 102 s.1.toNatClampNeg) s.2) := ⟨_, rfl⟩
      obtain ⟨M, h, hM, es⟩ := qa_c1 (y := 160) (as := [.ref 99, .int ((s.2 102 s.1.toNatClampNeg))]) (rest := [.int (s.1), .ref 102]) (i := .invokevirtual 160) (q := 124) (qa_e rfl h) (Or.inl rfl) rfl rfl (by decide) rfl (fun r hc => mb_160_99 hM es hc)
      rw [← er2] at h es
      obtain ⟨m3, em3⟩ : ∃ x, x = qa_u r2.2 102 s.1.toNatClampNeg r2.1 := ⟨_, rfl⟩
      obtain ⟨M, h, hM, es⟩ := qa_iastore (jn := s.1.toNatClampNeg) (q := 125) (qa_e rfl h) rfl hM es rfl
      rw [← em3] at es
      obtain ⟨lv, h, g, T⟩ := qa_iinc (n := 3) (z := (1 : Int32)) (q := 128) (qa_e rfl h) rfl (by decide) g3
      replace g0 := T _ _ g0 (by decide) (Or.inr rfl)
      replace g3 := g
      clear g T
      replace h := qa_goto (q := 103) (qa_e rfl h) rfl
      have e0 : mc_159_99_117_p103 N s = .inl ((s.1 + (1 : Int32)), m3) := by exact Eq.trans (if_pos c1) (Eq.trans (qa_ie er2) (Eq.trans (qa_ie em3) (rfl)))
      rw [qa_whl e0]
      exact ih n hn (Nat.le_of_succ_le hF) ((s.1 + (1 : Int32)), m3) _ _ hM es g0 g3 h
    · replace h := qa_ift (q := 131) (qa_e rfl h) rfl (qa_T_ge c1)
      have e0 : mc_159_99_117_p103 N s = .inr (s.1, s.2) := by exact Eq.trans (if_neg c1) (rfl)
      rw [qa_whr e0]
      exact ⟨_, _, q61_mono f F _ _ _ _ _ _ _ _ (Nat.le_of_succ_le hF) h, hM, es, g0⟩
noncomputable def mc_159_99_117_p133 (N : Nat) (s : Int32 × qa_S) : (Int32 × qa_S) ⊕ (Int32 × qa_S) :=
  if s.1 < (6 : Int32) then
    qa_in ((ma_160_99 (s.2 104 s.1.toNatClampNeg) s.2)) fun r2 =>
    qa_in (qa_u r2.2 104 s.1.toNatClampNeg r2.1) fun m3 =>
    qa_in ((ma_160_99 (m3 105 s.1.toNatClampNeg) m3)) fun r4 =>
    qa_in (qa_u r4.2 105 s.1.toNatClampNeg r4.1) fun m5 =>
    qa_in ((ma_160_99 (m5 106 s.1.toNatClampNeg) m5)) fun r6 =>
    qa_in (qa_u r6.2 106 s.1.toNatClampNeg r6.1) fun m7 =>
    .inl ((s.1 + (1 : Int32)), m7)
  else
    .inr (s.1, s.2)
theorem md_159_99_117_p133 {N F : Nat} {r : Option Value × q4_M} (hN : F ≤ N) : ∀ f n, f ≤ n → f ≤ F → ∀ (s : Int32 × qa_S) (lv : List (Nat × Value)) (M : q4_M), qa_O M → qa_s M = s.2 → q4_get lv 0 = some (.ref 99) → q4_get lv 3 = some (.int (s.1)) → q4_run f 159 133 lv [] M 0 0 = some r → ∃ lv M, q4_run F 159 193 lv [] M 0 0 = some r ∧ qa_O M ∧ qa_s M = (qa_wh (fun s => s) (mc_159_99_117_p133 N) n s).2 := by
  intro f
  induction f with
  | zero => intro n _ _ s lv M hM es _ _ h; cases h
  | succ f ih =>
    intro n hn hF s lv M hM es g0 g3 h
    obtain ⟨n, rfl⟩ : ∃ n1, n = n1 + 1 := ⟨n - 1, by omega⟩
    replace hn : f ≤ n := Nat.le_of_succ_le_succ hn
    have hN := Nat.le_trans (Nat.le_of_succ_le hF) hN
    replace h := qa_iload (n := 3) (q := 134) (qa_d rfl h) rfl g3
    replace h := qa_push (z := (6 : Int32)) (q := 136) (qa_e rfl h) rfl (by decide)
    by_cases c1 : s.1 < (6 : Int32)
    · replace h := qa_iff (q := 139) (qa_e rfl h) rfl (qa_F_ge c1)
      replace h := qa_aload (n := 0) (q := 140) (qa_e rfl h) rfl g0
      replace h := qa_gr (b := 104) (j := 6) (q := 143) (qa_e rfl h) rfl hM rfl (by decide)
      replace h := qa_iload (n := 3) (q := 144) (qa_e rfl h) rfl g3
      replace h := qa_aload (n := 0) (q := 145) (qa_e rfl h) rfl g0
      replace h := qa_aload (n := 0) (q := 146) (qa_e rfl h) rfl g0
      replace h := qa_gr (b := 104) (j := 6) (q := 149) (qa_e rfl h) rfl hM rfl (by decide)
      replace h := qa_iload (n := 3) (q := 150) (qa_e rfl h) rfl g3
      replace h := qa_iaload (jn := s.1.toNatClampNeg) (q := 151) (qa_e rfl h) rfl hM es rfl
      obtain ⟨r2, er2⟩ : ∃ x, x = (ma_160_99 (s.2 104 s.1.toNatClampNeg) s.2) := ⟨_, rfl⟩
      obtain ⟨M, h, hM, es⟩ := qa_c1 (y := 160) (as := [.ref 99, .int ((s.2 104 s.1.toNatClampNeg))]) (rest := [.int (s.1), .ref 104]) (i := .invokevirtual 160) (q := 154) (qa_e rfl h) (Or.inl rfl) rfl rfl (by decide) rfl (fun r hc => mb_160_99 hM es hc)
      rw [← er2] at h es
      obtain ⟨m3, em3⟩ : ∃ x, x = qa_u r2.2 104 s.1.toNatClampNeg r2.1 := ⟨_, rfl⟩
      obtain ⟨M, h, hM, es⟩ := qa_iastore (jn := s.1.toNatClampNeg) (q := 155) (qa_e rfl h) rfl hM es rfl
      rw [← em3] at es
      replace h := qa_aload (n := 0) (q := 156) (qa_e rfl h) rfl g0
      replace h := qa_gr (b := 105) (j := 7) (q := 159) (qa_e rfl h) rfl hM rfl (by decide)
      replace h := qa_iload (n := 3) (q := 160) (qa_e rfl h) rfl g3
      replace h := qa_aload (n := 0) (q := 161) (qa_e rfl h) rfl g0
      replace h := qa_aload (n := 0) (q := 162) (qa_e rfl h) rfl g0
      replace h := qa_gr (b := 105) (j := 7) (q := 165) (qa_e rfl h) rfl hM rfl (by decide)
      replace h := qa_iload (n := 3) (q := 166) (qa_e rfl h) rfl g3
      replace h := qa_iaload (jn := s.1.toNatClampNeg) (q := 167) (qa_e rfl h) rfl hM es rfl
      obtain ⟨r4, er4⟩ : ∃ x, x = (ma_160_99 (m3 105 s.1.toNatClampNeg) m3) := ⟨_, rfl⟩
      obtain ⟨M, h, hM, es⟩ := qa_c1 (y := 160) (as := [.ref 99, .int ((m3 105 s.1.toNatClampNeg))]) (rest := [.int (s.1), .ref 105]) (i := .invokevirtual 160) (q := 170) (qa_e rfl h) (Or.inl rfl) rfl rfl (by decide) rfl (fun r hc => mb_160_99 hM es hc)
      rw [← er4] at h es
      obtain ⟨m5, em5⟩ : ∃ x, x = qa_u r4.2 105 s.1.toNatClampNeg r4.1 := ⟨_, rfl⟩
      obtain ⟨M, h, hM, es⟩ := qa_iastore (jn := s.1.toNatClampNeg) (q := 171) (qa_e rfl h) rfl hM es rfl
      rw [← em5] at es
      replace h := qa_aload (n := 0) (q := 172) (qa_e rfl h) rfl g0
      replace h := qa_gr (b := 106) (j := 8) (q := 175) (qa_e rfl h) rfl hM rfl (by decide)
      replace h := qa_iload (n := 3) (q := 176) (qa_e rfl h) rfl g3
      replace h := qa_aload (n := 0) (q := 177) (qa_e rfl h) rfl g0
      replace h := qa_aload (n := 0) (q := 178) (qa_e rfl h) rfl g0
      replace h := qa_gr (b := 106) (j := 8) (q := 181) (qa_e rfl h) rfl hM rfl (by decide)
      replace h := qa_iload (n := 3) (q := 182) (qa_e rfl h) rfl g3
      replace h := qa_iaload (jn := s.1.toNatClampNeg) (q := 183) (qa_e rfl h) rfl hM es rfl
      obtain ⟨r6, er6⟩ : ∃ x, x = (ma_160_99 (m5 106 s.1.toNatClampNeg) m5) := ⟨_, rfl⟩
      obtain ⟨M, h, hM, es⟩ := qa_c1 (y := 160) (as := [.ref 99, .int ((m5 106 s.1.toNatClampNeg))]) (rest := [.int (s.1), .ref 106]) (i := .invokevirtual 160) (q := 186) (qa_e rfl h) (Or.inl rfl) rfl rfl (by decide) rfl (fun r hc => mb_160_99 hM es hc)
      rw [← er6] at h es
      obtain ⟨m7, em7⟩ : ∃ x, x = qa_u r6.2 106 s.1.toNatClampNeg r6.1 := ⟨_, rfl⟩
      obtain ⟨M, h, hM, es⟩ := qa_iastore (jn := s.1.toNatClampNeg) (q := 187) (qa_e rfl h) rfl hM es rfl
      rw [← em7] at es
      obtain ⟨lv, h, g, T⟩ := qa_iinc (n := 3) (z := (1 : Int32)) (q := 190) (qa_e rfl h) rfl (by decide) g3
      replace g0 := T _ _ g0 (by decide) (Or.inr rfl)
      replace g3 := g
      clear g T
      replace h := qa_goto (q := 133) (qa_e rfl h) rfl
      have e0 : mc_159_99_117_p133 N s = .inl ((s.1 + (1 : Int32)), m7) := by exact Eq.trans (if_pos c1) (Eq.trans (qa_ie er2) (Eq.trans (qa_ie em3) (Eq.trans (qa_ie er4) (Eq.trans (qa_ie em5) (Eq.trans (qa_ie er6) (Eq.trans (qa_ie em7) (rfl)))))))
      rw [qa_whl e0]
      exact ih n hn (Nat.le_of_succ_le hF) ((s.1 + (1 : Int32)), m7) _ _ hM es g0 g3 h
    · replace h := qa_ift (q := 193) (qa_e rfl h) rfl (qa_T_ge c1)
      have e0 : mc_159_99_117_p133 N s = .inr (s.1, s.2) := by exact Eq.trans (if_neg c1) (rfl)
      rw [qa_whr e0]
      exact ⟨_, _, q61_mono f F _ _ _ _ _ _ _ _ (Nat.le_of_succ_le hF) h, hM, es⟩
/-- BuriedBySevensModel, carryAll, ([IZ)V -/
noncomputable def ma_159_99_117 (N : Nat) (a2 : Int32) (σ : qa_S) : qa_S :=
  qa_in (qa_u σ 99 29 (117 : Int32)) fun m1 =>
  qa_in (qa_u m1 99 28 a2) fun m2 =>
  qa_in (qa_u m2 99 27 (0 : Int32)) fun m3 =>
  qa_in ((ma_160_99 (m3 99 0) m3)) fun r4 =>
  qa_in (qa_u r4.2 99 0 r4.1) fun m5 =>
  qa_in ((ma_160_99 (m5 99 5) m5)) fun r6 =>
  qa_in (qa_u r6.2 99 5 r6.1) fun m7 =>
  qa_in ((qa_wh (fun s => s) (mc_159_99_117_p41 N) N ((0 : Int32), m7))) fun r8 =>
  qa_in ((qa_wh (fun s => s) (mc_159_99_117_p103 N) N ((0 : Int32), r8.2))) fun r9 =>
  qa_in ((qa_wh (fun s => s) (mc_159_99_117_p133 N) N ((0 : Int32), r9.2))) fun r10 =>
  r10.2
theorem mb_159_99_117 {f N : Nat} (hN : f ≤ N) {M : q4_M} {r : Option Value × q4_M} {σ : qa_S} {a2 : Int32} (hM : qa_O M) (es : qa_s M = σ) (h : q4_run f 159 0 (lv_args 0 [.ref 99, .ref 117, .int (a2)]) [] M 0 0 = some r) : r.1 = none ∧ qa_O r.2 ∧ qa_s r.2 = (ma_159_99_117 N a2 σ) := by
  obtain ⟨lv, el⟩ : ∃ l, l = lv_args 0 [.ref 99, .ref 117, .int (a2)] := ⟨_, rfl⟩
  have g0 : q4_get lv 0 = some (.ref 99) := by rw [el]; rfl
  have g1 : q4_get lv 1 = some (.ref 117) := by rw [el]; rfl
  have g2 : q4_get lv 2 = some (.int (a2)) := by rw [el]; rfl
  rw [← el] at h
  clear el
  replace h := qa_aload (n := 0) (q := 1) (qa_e rfl h) rfl g0
  replace h := qa_aload (n := 1) (q := 2) (qa_e rfl h) rfl g1
  obtain ⟨m1, em1⟩ : ∃ x, x = qa_u σ 99 29 (117 : Int32) := ⟨_, rfl⟩
  obtain ⟨M, h, hM, es⟩ := qa_pk (j := 29) (z := (117 : Int32)) (q := 5) (qa_e rfl h) rfl hM es rfl (by decide) (by decide)
  rw [← em1] at es
  replace h := qa_aload (n := 0) (q := 6) (qa_e rfl h) rfl g0
  replace h := qa_iload (n := 2) (q := 7) (qa_e rfl h) rfl g2
  obtain ⟨m2, em2⟩ : ∃ x, x = qa_u m1 99 28 a2 := ⟨_, rfl⟩
  obtain ⟨M, h, hM, es⟩ := qa_pf (j := 28) (q := 10) (qa_e rfl h) rfl hM es rfl (by decide)
  rw [← em2] at es
  replace h := qa_aload (n := 0) (q := 11) (qa_e rfl h) rfl g0
  replace h := qa_push (z := (0 : Int32)) (q := 12) (qa_e rfl h) rfl (by decide)
  obtain ⟨m3, em3⟩ : ∃ x, x = qa_u m2 99 27 (0 : Int32) := ⟨_, rfl⟩
  obtain ⟨M, h, hM, es⟩ := qa_pf (j := 27) (q := 15) (qa_e rfl h) rfl hM es rfl (by decide)
  rw [← em3] at es
  replace h := qa_aload (n := 0) (q := 16) (qa_e rfl h) rfl g0
  replace h := qa_aload (n := 0) (q := 17) (qa_e rfl h) rfl g0
  replace h := qa_aload (n := 0) (q := 18) (qa_e rfl h) rfl g0
  replace h := qa_gi (j := 0) (q := 21) (qa_e rfl h) rfl hM es rfl (by decide)
  obtain ⟨r4, er4⟩ : ∃ x, x = (ma_160_99 (m3 99 0) m3) := ⟨_, rfl⟩
  obtain ⟨M, h, hM, es⟩ := qa_c1 (y := 160) (as := [.ref 99, .int ((m3 99 0))]) (rest := [.ref 99]) (i := .invokevirtual 160) (q := 24) (qa_e rfl h) (Or.inl rfl) rfl rfl (by decide) rfl (fun r hc => mb_160_99 hM es hc)
  rw [← er4] at h es
  obtain ⟨m5, em5⟩ : ∃ x, x = qa_u r4.2 99 0 r4.1 := ⟨_, rfl⟩
  obtain ⟨M, h, hM, es⟩ := qa_pf (j := 0) (q := 27) (qa_e rfl h) rfl hM es rfl (by decide)
  rw [← em5] at es
  replace h := qa_aload (n := 0) (q := 28) (qa_e rfl h) rfl g0
  replace h := qa_aload (n := 0) (q := 29) (qa_e rfl h) rfl g0
  replace h := qa_aload (n := 0) (q := 30) (qa_e rfl h) rfl g0
  replace h := qa_gi (j := 5) (q := 33) (qa_e rfl h) rfl hM es rfl (by decide)
  obtain ⟨r6, er6⟩ : ∃ x, x = (ma_160_99 (m5 99 5) m5) := ⟨_, rfl⟩
  obtain ⟨M, h, hM, es⟩ := qa_c1 (y := 160) (as := [.ref 99, .int ((m5 99 5))]) (rest := [.ref 99]) (i := .invokevirtual 160) (q := 36) (qa_e rfl h) (Or.inl rfl) rfl rfl (by decide) rfl (fun r hc => mb_160_99 hM es hc)
  rw [← er6] at h es
  obtain ⟨m7, em7⟩ : ∃ x, x = qa_u r6.2 99 5 r6.1 := ⟨_, rfl⟩
  obtain ⟨M, h, hM, es⟩ := qa_pf (j := 5) (q := 39) (qa_e rfl h) rfl hM es rfl (by decide)
  rw [← em7] at es
  replace h := qa_push (z := (0 : Int32)) (q := 40) (qa_e rfl h) rfl (by decide)
  obtain ⟨lv, h, g, T⟩ := qa_istore (n := 3) (q := 41) (qa_e rfl h) rfl
  replace g0 := T _ _ g0 (by decide) (Or.inr rfl)
  have g3 := g
  clear g T
  obtain ⟨r8, er8⟩ : ∃ x, x = (qa_wh (fun s => s) (mc_159_99_117_p41 N) N ((0 : Int32), m7)) := ⟨_, rfl⟩
  have L := md_159_99_117_p41 (F := f) (N := N) (r := r) hN f N hN (Nat.le_refl f) ((0 : Int32), m7) _ _ hM es g0 g3 h
  rw [← er8] at L
  obtain ⟨lv, M, h, hM, es, g0⟩ := L
  replace h := qa_push (z := (0 : Int32)) (q := 102) (qa_e rfl h) rfl (by decide)
  obtain ⟨lv, h, g, T⟩ := qa_istore (n := 3) (q := 103) (qa_e rfl h) rfl
  replace g0 := T _ _ g0 (by decide) (Or.inr rfl)
  have g3 := g
  clear g T
  obtain ⟨r9, er9⟩ : ∃ x, x = (qa_wh (fun s => s) (mc_159_99_117_p103 N) N ((0 : Int32), r8.2)) := ⟨_, rfl⟩
  have L := md_159_99_117_p103 (F := f) (N := N) (r := r) hN f N hN (Nat.le_refl f) ((0 : Int32), r8.2) _ _ hM es g0 g3 h
  rw [← er9] at L
  obtain ⟨lv, M, h, hM, es, g0⟩ := L
  replace h := qa_push (z := (0 : Int32)) (q := 132) (qa_e rfl h) rfl (by decide)
  obtain ⟨lv, h, g, T⟩ := qa_istore (n := 3) (q := 133) (qa_e rfl h) rfl
  replace g0 := T _ _ g0 (by decide) (Or.inr rfl)
  have g3 := g
  clear g T
  obtain ⟨r10, er10⟩ : ∃ x, x = (qa_wh (fun s => s) (mc_159_99_117_p133 N) N ((0 : Int32), r9.2)) := ⟨_, rfl⟩
  have L := md_159_99_117_p133 (F := f) (N := N) (r := r) hN f N hN (Nat.le_refl f) ((0 : Int32), r9.2) _ _ hM es g0 g3 h
  rw [← er10] at L
  obtain ⟨lv, M, h, hM, es⟩ := L
  have er := qa_rv (qa_e rfl h)
  subst er
  have e0 : ma_159_99_117 N a2 σ = r10.2 := by exact Eq.trans (qa_ie em1) (Eq.trans (qa_ie em2) (Eq.trans (qa_ie em3) (Eq.trans (qa_ie er4) (Eq.trans (qa_ie em5) (Eq.trans (qa_ie er6) (Eq.trans (qa_ie em7) (Eq.trans (qa_ie er8) (Eq.trans (qa_ie er9) (Eq.trans (qa_ie er10) (rfl))))))))))
  rw [e0]
  exact ⟨rfl, hM, es⟩
noncomputable def mc_162_99_p36 (N : Nat) (s : Int32 × Int32 × qa_S) : (Int32 × Int32 × qa_S) ⊕ (Int32 × Int32 × qa_S) :=
  if s.1 < (0 : Int32) then
    .inr (s.1, s.2.1, s.2.2)
  else
    qa_in (qa_u s.2.2 102 (((4 : Int32) * (s.2.2 99 0)) + s.1).toNatClampNeg (s.2.1 - s.2.1 / (10 : Int32) * (10 : Int32))) fun m2 =>
    .inl ((s.1 + (-1 : Int32)), (s.2.1 / (10 : Int32)), m2)
theorem md_162_99_p36 {N F : Nat} {r : Option Value × q4_M} (hN : F ≤ N) : ∀ f n, f ≤ n → f ≤ F → ∀ (s : Int32 × Int32 × qa_S) (lv : List (Nat × Value)) (M : q4_M), qa_O M → qa_s M = s.2.2 → q4_get lv 0 = some (.ref 99) → q4_get lv 4 = some (.int (s.2.1)) → q4_get lv 5 = some (.int (s.1)) → q4_run f 162 36 lv [] M 0 0 = some r → ∃ lv M, q4_run F 162 73 lv [] M 0 0 = some r ∧ qa_O M ∧ qa_s M = (qa_wh (fun s => s) (mc_162_99_p36 N) n s).2.2 ∧ q4_get lv 0 = some (.ref 99) := by
  intro f
  induction f with
  | zero => intro n _ _ s lv M hM es _ _ _ h; cases h
  | succ f ih =>
    intro n hn hF s lv M hM es g0 g4 g5 h
    obtain ⟨n, rfl⟩ : ∃ n1, n = n1 + 1 := ⟨n - 1, by omega⟩
    replace hn : f ≤ n := Nat.le_of_succ_le_succ hn
    have hN := Nat.le_trans (Nat.le_of_succ_le hF) hN
    replace h := qa_iload (n := 5) (q := 38) (qa_d rfl h) rfl g5
    by_cases c1 : s.1 < (0 : Int32)
    · replace h := qa_ict (q := 73) (qa_e rfl h) rfl (qa_T_lt c1)
      have e0 : mc_162_99_p36 N s = .inr (s.1, s.2.1, s.2.2) := by exact Eq.trans (if_pos c1) (rfl)
      rw [qa_whr e0]
      exact ⟨_, _, q61_mono f F _ _ _ _ _ _ _ _ (Nat.le_of_succ_le hF) h, hM, es, g0⟩
    · replace h := qa_icf (q := 41) (qa_e rfl h) rfl (qa_F_lt c1)
      replace h := qa_aload (n := 0) (q := 42) (qa_e rfl h) rfl g0
      replace h := qa_gr (b := 102) (j := 3) (q := 45) (qa_e rfl h) rfl hM rfl (by decide)
      replace h := qa_push (z := (4 : Int32)) (q := 46) (qa_e rfl h) rfl (by decide)
      replace h := qa_aload (n := 0) (q := 47) (qa_e rfl h) rfl g0
      replace h := qa_gi (j := 0) (q := 50) (qa_e rfl h) rfl hM es rfl (by decide)
      replace h := qa_imul (q := 51) (qa_e rfl h) rfl
      replace h := qa_iload (n := 5) (q := 53) (qa_e rfl h) rfl g5
      replace h := qa_iadd (q := 54) (qa_e rfl h) rfl
      replace h := qa_iload (n := 4) (q := 56) (qa_e rfl h) rfl g4
      replace h := qa_push (z := (10 : Int32)) (q := 58) (qa_e rfl h) rfl (by decide)
      replace h := qa_irem (q := 59) (qa_e rfl h) rfl
      obtain ⟨m2, em2⟩ : ∃ x, x = qa_u s.2.2 102 (((4 : Int32) * (s.2.2 99 0)) + s.1).toNatClampNeg (s.2.1 - s.2.1 / (10 : Int32) * (10 : Int32)) := ⟨_, rfl⟩
      obtain ⟨M, h, hM, es⟩ := qa_iastore (jn := (((4 : Int32) * (s.2.2 99 0)) + s.1).toNatClampNeg) (q := 60) (qa_e rfl h) rfl hM es rfl
      rw [← em2] at es
      replace h := qa_iload (n := 4) (q := 62) (qa_e rfl h) rfl g4
      replace h := qa_push (z := (10 : Int32)) (q := 64) (qa_e rfl h) rfl (by decide)
      replace h := qa_idiv (q := 65) (qa_e rfl h) rfl
      obtain ⟨lv, h, g, T⟩ := qa_istore (n := 4) (q := 67) (qa_e rfl h) rfl
      replace g0 := T _ _ g0 (by decide) (Or.inr rfl)
      replace g5 := T _ _ g5 (by decide) (Or.inr rfl)
      have g4 := g
      clear g T
      obtain ⟨lv, h, g, T⟩ := qa_iinc (n := 5) (z := (-1 : Int32)) (q := 70) (qa_e rfl h) rfl (by decide) g5
      replace g0 := T _ _ g0 (by decide) (Or.inr rfl)
      replace g4 := T _ _ g4 (by decide) (Or.inr rfl)
      replace g5 := g
      clear g T
      replace h := qa_goto (q := 36) (qa_e rfl h) rfl
      have e0 : mc_162_99_p36 N s = .inl ((s.1 + (-1 : Int32)), (s.2.1 / (10 : Int32)), m2) := by exact Eq.trans (if_neg c1) (Eq.trans (qa_ie em2) (rfl))
      rw [qa_whl e0]
      exact ih n hn (Nat.le_of_succ_le hF) ((s.1 + (-1 : Int32)), (s.2.1 / (10 : Int32)), m2) _ _ hM es g0 g4 g5 h
/-- BuriedBySevensModel, caskComes, (III)V -/
noncomputable def ma_162_99 (N : Nat) (a1 : Int32) (a2 : Int32) (a3 : Int32) (σ : qa_S) : qa_S :=
  qa_in (qa_u σ 100 (σ 99 0).toNatClampNeg a1) fun m1 =>
  qa_in (qa_u m1 101 (m1 99 0).toNatClampNeg a2) fun m2 =>
  qa_in (qa_u m2 103 (m2 99 0).toNatClampNeg (0 : Int32)) fun m3 =>
  qa_in ((qa_wh (fun s => s) (mc_162_99_p36 N) N ((3 : Int32), a3, m3))) fun r4 =>
  qa_in (qa_u r4.2.2 99 0 ((r4.2.2 99 0) + (1 : Int32))) fun m5 =>
  m5
theorem mb_162_99 {f N : Nat} (hN : f ≤ N) {M : q4_M} {r : Option Value × q4_M} {σ : qa_S} {a1 : Int32} {a2 : Int32} {a3 : Int32} (hM : qa_O M) (es : qa_s M = σ) (h : q4_run f 162 0 (lv_args 0 [.ref 99, .int (a1), .int (a2), .int (a3)]) [] M 0 0 = some r) : r.1 = none ∧ qa_O r.2 ∧ qa_s r.2 = (ma_162_99 N a1 a2 a3 σ) := by
  obtain ⟨lv, el⟩ : ∃ l, l = lv_args 0 [.ref 99, .int (a1), .int (a2), .int (a3)] := ⟨_, rfl⟩
  have g0 : q4_get lv 0 = some (.ref 99) := by rw [el]; rfl
  have g1 : q4_get lv 1 = some (.int (a1)) := by rw [el]; rfl
  have g2 : q4_get lv 2 = some (.int (a2)) := by rw [el]; rfl
  have g3 : q4_get lv 3 = some (.int (a3)) := by rw [el]; rfl
  rw [← el] at h
  clear el
  replace h := qa_aload (n := 0) (q := 1) (qa_e rfl h) rfl g0
  replace h := qa_gr (b := 100) (j := 1) (q := 4) (qa_e rfl h) rfl hM rfl (by decide)
  replace h := qa_aload (n := 0) (q := 5) (qa_e rfl h) rfl g0
  replace h := qa_gi (j := 0) (q := 8) (qa_e rfl h) rfl hM es rfl (by decide)
  replace h := qa_iload (n := 1) (q := 9) (qa_e rfl h) rfl g1
  obtain ⟨m1, em1⟩ : ∃ x, x = qa_u σ 100 (σ 99 0).toNatClampNeg a1 := ⟨_, rfl⟩
  obtain ⟨M, h, hM, es⟩ := qa_iastore (jn := (σ 99 0).toNatClampNeg) (q := 10) (qa_e rfl h) rfl hM es rfl
  rw [← em1] at es
  replace h := qa_aload (n := 0) (q := 11) (qa_e rfl h) rfl g0
  replace h := qa_gr (b := 101) (j := 2) (q := 14) (qa_e rfl h) rfl hM rfl (by decide)
  replace h := qa_aload (n := 0) (q := 15) (qa_e rfl h) rfl g0
  replace h := qa_gi (j := 0) (q := 18) (qa_e rfl h) rfl hM es rfl (by decide)
  replace h := qa_iload (n := 2) (q := 19) (qa_e rfl h) rfl g2
  obtain ⟨m2, em2⟩ : ∃ x, x = qa_u m1 101 (m1 99 0).toNatClampNeg a2 := ⟨_, rfl⟩
  obtain ⟨M, h, hM, es⟩ := qa_iastore (jn := (m1 99 0).toNatClampNeg) (q := 20) (qa_e rfl h) rfl hM es rfl
  rw [← em2] at es
  replace h := qa_aload (n := 0) (q := 21) (qa_e rfl h) rfl g0
  replace h := qa_gr (b := 103) (j := 4) (q := 24) (qa_e rfl h) rfl hM rfl (by decide)
  replace h := qa_aload (n := 0) (q := 25) (qa_e rfl h) rfl g0
  replace h := qa_gi (j := 0) (q := 28) (qa_e rfl h) rfl hM es rfl (by decide)
  replace h := qa_push (z := (0 : Int32)) (q := 29) (qa_e rfl h) rfl (by decide)
  obtain ⟨m3, em3⟩ : ∃ x, x = qa_u m2 103 (m2 99 0).toNatClampNeg (0 : Int32) := ⟨_, rfl⟩
  obtain ⟨M, h, hM, es⟩ := qa_iastore (jn := (m2 99 0).toNatClampNeg) (q := 30) (qa_e rfl h) rfl hM es rfl
  rw [← em3] at es
  replace h := qa_iload (n := 3) (q := 31) (qa_e rfl h) rfl g3
  obtain ⟨lv, h, g, T⟩ := qa_istore (n := 4) (q := 33) (qa_e rfl h) rfl
  replace g0 := T _ _ g0 (by decide) (Or.inr rfl)
  have g4 := g
  clear g T
  replace h := qa_push (z := (3 : Int32)) (q := 34) (qa_e rfl h) rfl (by decide)
  obtain ⟨lv, h, g, T⟩ := qa_istore (n := 5) (q := 36) (qa_e rfl h) rfl
  replace g0 := T _ _ g0 (by decide) (Or.inr rfl)
  replace g4 := T _ _ g4 (by decide) (Or.inr rfl)
  have g5 := g
  clear g T
  obtain ⟨r4, er4⟩ : ∃ x, x = (qa_wh (fun s => s) (mc_162_99_p36 N) N ((3 : Int32), a3, m3)) := ⟨_, rfl⟩
  have L := md_162_99_p36 (F := f) (N := N) (r := r) hN f N hN (Nat.le_refl f) ((3 : Int32), a3, m3) _ _ hM es g0 g4 g5 h
  rw [← er4] at L
  obtain ⟨lv, M, h, hM, es, g0⟩ := L
  replace h := qa_aload (n := 0) (q := 74) (qa_e rfl h) rfl g0
  replace h := qa_dupa (q := 75) (qa_e rfl h) rfl
  replace h := qa_gi (j := 0) (q := 78) (qa_e rfl h) rfl hM es rfl (by decide)
  replace h := qa_push (z := (1 : Int32)) (q := 79) (qa_e rfl h) rfl (by decide)
  replace h := qa_iadd (q := 80) (qa_e rfl h) rfl
  obtain ⟨m5, em5⟩ : ∃ x, x = qa_u r4.2.2 99 0 ((r4.2.2 99 0) + (1 : Int32)) := ⟨_, rfl⟩
  obtain ⟨M, h, hM, es⟩ := qa_pf (j := 0) (q := 83) (qa_e rfl h) rfl hM es rfl (by decide)
  rw [← em5] at es
  have er := qa_rv (qa_e rfl h)
  subst er
  have e0 : ma_162_99 N a1 a2 a3 σ = m5 := by exact Eq.trans (qa_ie em1) (Eq.trans (qa_ie em2) (Eq.trans (qa_ie em3) (Eq.trans (qa_ie er4) (Eq.trans (qa_ie em5) (rfl)))))
  rw [e0]
  exact ⟨rfl, hM, es⟩
/-- BuriedBySevensModel, isCask, (I)Z -/
noncomputable def ma_163_99 (a1 : Int32) (σ : qa_S) : Int32 :=
  (ma_158 (a1).toInt64 (0 : Int64) (((σ 99 0) - (1 : Int32))).toInt64)
theorem mb_163_99 {f : Nat} {M : q4_M} {r : Option Value × q4_M} {σ : qa_S} {a1 : Int32} (hM : qa_O M) (es : qa_s M = σ) (h : q4_run f 163 0 (lv_args 0 [.ref 99, .int (a1)]) [] M 0 0 = some r) : r.1 = some (.int ((ma_163_99 a1 σ))) ∧ qa_O r.2 ∧ qa_s r.2 = σ := by
  obtain ⟨lv, el⟩ : ∃ l, l = lv_args 0 [.ref 99, .int (a1)] := ⟨_, rfl⟩
  have g0 : q4_get lv 0 = some (.ref 99) := by rw [el]; rfl
  have g1 : q4_get lv 1 = some (.int (a1)) := by rw [el]; rfl
  rw [← el] at h
  clear el
  replace h := qa_iload (n := 1) (q := 1) (qa_e rfl h) rfl g1
  replace h := qa_i2l (q := 2) (qa_e rfl h) rfl
  replace h := qa_lpush (z := (0 : Int64)) (q := 3) (qa_e rfl h) rfl (by decide)
  replace h := qa_aload (n := 0) (q := 4) (qa_e rfl h) rfl g0
  replace h := qa_gi (j := 0) (q := 7) (qa_e rfl h) rfl hM es rfl (by decide)
  replace h := qa_push (z := (1 : Int32)) (q := 8) (qa_e rfl h) rfl (by decide)
  replace h := qa_isub (q := 9) (qa_e rfl h) rfl
  replace h := qa_i2l (q := 10) (qa_e rfl h) rfl
  obtain ⟨M, h, hM, es⟩ := qa_c1 (y := 158) (as := [.long ((a1).toInt64), .long ((0 : Int64)), .long ((((σ 99 0) - (1 : Int32))).toInt64)]) (rest := []) (i := .invokestatic 158) (q := 13) (qa_e rfl h) (Or.inr rfl) rfl rfl (by decide) rfl (fun r hc => mb_158 hM es hc)
  have er := qa_ri (qa_e rfl h)
  subst er
  have e0 : ma_163_99 a1 σ = (ma_158 (a1).toInt64 (0 : Int64) (((σ 99 0) - (1 : Int32))).toInt64) := by exact rfl
  rw [e0]
  exact ⟨rfl, hM, es⟩
/-- BuriedBySevensModel, tasterJoins, (III)V -/
noncomputable def ma_164_99 (a1 : Int32) (a2 : Int32) (a3 : Int32) (σ : qa_S) : qa_S :=
  qa_in (qa_u σ 104 (σ 99 5).toNatClampNeg a1) fun m1 =>
  qa_in (qa_u m1 105 (m1 99 5).toNatClampNeg a2) fun m2 =>
  qa_in (qa_u m2 106 (m2 99 5).toNatClampNeg a3) fun m3 =>
  qa_in (qa_u m3 99 5 ((m3 99 5) + (1 : Int32))) fun m4 =>
  m4
theorem mb_164_99 {f : Nat} {M : q4_M} {r : Option Value × q4_M} {σ : qa_S} {a1 : Int32} {a2 : Int32} {a3 : Int32} (hM : qa_O M) (es : qa_s M = σ) (h : q4_run f 164 0 (lv_args 0 [.ref 99, .int (a1), .int (a2), .int (a3)]) [] M 0 0 = some r) : r.1 = none ∧ qa_O r.2 ∧ qa_s r.2 = (ma_164_99 a1 a2 a3 σ) := by
  obtain ⟨lv, el⟩ : ∃ l, l = lv_args 0 [.ref 99, .int (a1), .int (a2), .int (a3)] := ⟨_, rfl⟩
  have g0 : q4_get lv 0 = some (.ref 99) := by rw [el]; rfl
  have g1 : q4_get lv 1 = some (.int (a1)) := by rw [el]; rfl
  have g2 : q4_get lv 2 = some (.int (a2)) := by rw [el]; rfl
  have g3 : q4_get lv 3 = some (.int (a3)) := by rw [el]; rfl
  rw [← el] at h
  clear el
  replace h := qa_aload (n := 0) (q := 1) (qa_e rfl h) rfl g0
  replace h := qa_gr (b := 104) (j := 6) (q := 4) (qa_e rfl h) rfl hM rfl (by decide)
  replace h := qa_aload (n := 0) (q := 5) (qa_e rfl h) rfl g0
  replace h := qa_gi (j := 5) (q := 8) (qa_e rfl h) rfl hM es rfl (by decide)
  replace h := qa_iload (n := 1) (q := 9) (qa_e rfl h) rfl g1
  obtain ⟨m1, em1⟩ : ∃ x, x = qa_u σ 104 (σ 99 5).toNatClampNeg a1 := ⟨_, rfl⟩
  obtain ⟨M, h, hM, es⟩ := qa_iastore (jn := (σ 99 5).toNatClampNeg) (q := 10) (qa_e rfl h) rfl hM es rfl
  rw [← em1] at es
  replace h := qa_aload (n := 0) (q := 11) (qa_e rfl h) rfl g0
  replace h := qa_gr (b := 105) (j := 7) (q := 14) (qa_e rfl h) rfl hM rfl (by decide)
  replace h := qa_aload (n := 0) (q := 15) (qa_e rfl h) rfl g0
  replace h := qa_gi (j := 5) (q := 18) (qa_e rfl h) rfl hM es rfl (by decide)
  replace h := qa_iload (n := 2) (q := 19) (qa_e rfl h) rfl g2
  obtain ⟨m2, em2⟩ : ∃ x, x = qa_u m1 105 (m1 99 5).toNatClampNeg a2 := ⟨_, rfl⟩
  obtain ⟨M, h, hM, es⟩ := qa_iastore (jn := (m1 99 5).toNatClampNeg) (q := 20) (qa_e rfl h) rfl hM es rfl
  rw [← em2] at es
  replace h := qa_aload (n := 0) (q := 21) (qa_e rfl h) rfl g0
  replace h := qa_gr (b := 106) (j := 8) (q := 24) (qa_e rfl h) rfl hM rfl (by decide)
  replace h := qa_aload (n := 0) (q := 25) (qa_e rfl h) rfl g0
  replace h := qa_gi (j := 5) (q := 28) (qa_e rfl h) rfl hM es rfl (by decide)
  replace h := qa_iload (n := 3) (q := 29) (qa_e rfl h) rfl g3
  obtain ⟨m3, em3⟩ : ∃ x, x = qa_u m2 106 (m2 99 5).toNatClampNeg a3 := ⟨_, rfl⟩
  obtain ⟨M, h, hM, es⟩ := qa_iastore (jn := (m2 99 5).toNatClampNeg) (q := 30) (qa_e rfl h) rfl hM es rfl
  rw [← em3] at es
  replace h := qa_aload (n := 0) (q := 31) (qa_e rfl h) rfl g0
  replace h := qa_dupa (q := 32) (qa_e rfl h) rfl
  replace h := qa_gi (j := 5) (q := 35) (qa_e rfl h) rfl hM es rfl (by decide)
  replace h := qa_push (z := (1 : Int32)) (q := 36) (qa_e rfl h) rfl (by decide)
  replace h := qa_iadd (q := 37) (qa_e rfl h) rfl
  obtain ⟨m4, em4⟩ : ∃ x, x = qa_u m3 99 5 ((m3 99 5) + (1 : Int32)) := ⟨_, rfl⟩
  obtain ⟨M, h, hM, es⟩ := qa_pf (j := 5) (q := 40) (qa_e rfl h) rfl hM es rfl (by decide)
  rw [← em4] at es
  have er := qa_rv (qa_e rfl h)
  subst er
  have e0 : ma_164_99 a1 a2 a3 σ = m4 := by exact Eq.trans (qa_ie em1) (Eq.trans (qa_ie em2) (Eq.trans (qa_ie em3) (Eq.trans (qa_ie em4) (rfl))))
  rw [e0]
  exact ⟨rfl, hM, es⟩
/-- BuriedBySevensModel, isMark, (I)Z -/
noncomputable def ma_165 (a0 : Int32) : Int32 :=
  (ma_158 (a0).toInt64 (0 : Int64) (3 : Int64))
theorem mb_165 {f : Nat} {M : q4_M} {r : Option Value × q4_M} {σ : qa_S} {a0 : Int32} (hM : qa_O M) (es : qa_s M = σ) (h : q4_run f 165 0 (lv_args 0 [.int (a0)]) [] M 0 0 = some r) : r.1 = some (.int ((ma_165 a0))) ∧ qa_O r.2 ∧ qa_s r.2 = σ := by
  obtain ⟨lv, el⟩ : ∃ l, l = lv_args 0 [.int (a0)] := ⟨_, rfl⟩
  have g0 : q4_get lv 0 = some (.int (a0)) := by rw [el]; rfl
  rw [← el] at h
  clear el
  replace h := qa_iload (n := 0) (q := 1) (qa_e rfl h) rfl g0
  replace h := qa_i2l (q := 2) (qa_e rfl h) rfl
  replace h := qa_lpush (z := (0 : Int64)) (q := 3) (qa_e rfl h) rfl (by decide)
  replace h := qa_lpush (z := (3 : Int64)) (q := 6) (qa_e rfl h) rfl (by decide)
  obtain ⟨M, h, hM, es⟩ := qa_c1 (y := 158) (as := [.long ((a0).toInt64), .long ((0 : Int64)), .long ((3 : Int64))]) (rest := []) (i := .invokestatic 158) (q := 9) (qa_e rfl h) (Or.inr rfl) rfl rfl (by decide) rfl (fun r hc => mb_158 hM es hc)
  have er := qa_ri (qa_e rfl h)
  subst er
  have e0 : ma_165 a0 = (ma_158 (a0).toInt64 (0 : Int64) (3 : Int64)) := by exact rfl
  rw [e0]
  exact ⟨rfl, hM, es⟩
/-- BuriedBySevensModel, comesTold, (I)Z -/
noncomputable def ma_161_99 (N : Nat) (a1 : Int32) (σ : qa_S) : Int32 × qa_S :=
  if (σ 115 a1.toNatClampNeg) = (99 : Int32) then
    qa_in ((ma_162_99 N (σ 116 ((3 : Int32) * a1).toNatClampNeg) (σ 116 (((3 : Int32) * a1) + (1 : Int32)).toNatClampNeg) (σ 116 (((3 : Int32) * a1) + (2 : Int32)).toNatClampNeg) σ)) fun m7 =>
    qa_in ((if (if (σ 116 ((3 : Int32) * a1).toNatClampNeg) < (6 : Int32) then (if (σ 99 0) < (7 : Int32) then (1 : Int32) else (0 : Int32)) else (0 : Int32)) = (0 : Int32) then σ else m7)) fun m8 =>
    ((if (σ 116 ((3 : Int32) * a1).toNatClampNeg) < (6 : Int32) then (if (σ 99 0) < (7 : Int32) then (1 : Int32) else (0 : Int32)) else (0 : Int32)), m8)
  else
    if (σ 115 a1.toNatClampNeg) = (115 : Int32) then
      qa_in (qa_u σ 103 (σ 116 ((3 : Int32) * a1).toNatClampNeg).toNatClampNeg (σ 116 (((3 : Int32) * a1) + (1 : Int32)).toNatClampNeg)) fun m10 =>
      qa_in ((if (ma_163_99 (σ 116 ((3 : Int32) * a1).toNatClampNeg) σ) = (0 : Int32) then σ else m10)) fun m11 =>
      ((ma_163_99 (σ 116 ((3 : Int32) * a1).toNatClampNeg) σ), m11)
    else
      if (σ 115 a1.toNatClampNeg) = (116 : Int32) then
        qa_in ((ma_164_99 (σ 116 ((3 : Int32) * a1).toNatClampNeg) (σ 116 (((3 : Int32) * a1) + (1 : Int32)).toNatClampNeg) (σ 116 (((3 : Int32) * a1) + (2 : Int32)).toNatClampNeg) σ)) fun m15 =>
        qa_in ((if (if (ma_158 ((σ 116 ((3 : Int32) * a1).toNatClampNeg)).toInt64 (1 : Int64) (15 : Int64)) = (0 : Int32) then (0 : Int32) else (if (σ 99 5) < (6 : Int32) then (1 : Int32) else (0 : Int32))) = (0 : Int32) then σ else m15)) fun m16 =>
        ((if (ma_158 ((σ 116 ((3 : Int32) * a1).toNatClampNeg)).toInt64 (1 : Int64) (15 : Int64)) = (0 : Int32) then (0 : Int32) else (if (σ 99 5) < (6 : Int32) then (1 : Int32) else (0 : Int32))), m16)
      else
        qa_in (qa_u σ 102 (((4 : Int32) * (σ 116 ((3 : Int32) * a1).toNatClampNeg)) + (σ 116 (((3 : Int32) * a1) + (1 : Int32)).toNatClampNeg)).toNatClampNeg (σ 116 (((3 : Int32) * a1) + (2 : Int32)).toNatClampNeg)) fun m20 =>
        qa_in ((if (if (ma_163_99 (σ 116 ((3 : Int32) * a1).toNatClampNeg) σ) = (0 : Int32) then (0 : Int32) else (if (ma_165 (σ 116 (((3 : Int32) * a1) + (1 : Int32)).toNatClampNeg)) = (0 : Int32) then (0 : Int32) else (1 : Int32))) = (0 : Int32) then σ else m20)) fun m21 =>
        ((if (ma_163_99 (σ 116 ((3 : Int32) * a1).toNatClampNeg) σ) = (0 : Int32) then (0 : Int32) else (if (ma_165 (σ 116 (((3 : Int32) * a1) + (1 : Int32)).toNatClampNeg)) = (0 : Int32) then (0 : Int32) else (1 : Int32))), m21)
theorem mb_161_99 {f N : Nat} (hN : f ≤ N) {M : q4_M} {r : Option Value × q4_M} {σ : qa_S} {a1 : Int32} (hM : qa_O M) (es : qa_s M = σ) (h : q4_run f 161 0 (lv_args 0 [.ref 99, .int (a1)]) [] M 0 0 = some r) : r.1 = some (.int ((ma_161_99 N a1 σ).1)) ∧ qa_O r.2 ∧ qa_s r.2 = (ma_161_99 N a1 σ).2 := by
  obtain ⟨lv, el⟩ : ∃ l, l = lv_args 0 [.ref 99, .int (a1)] := ⟨_, rfl⟩
  have g0 : q4_get lv 0 = some (.ref 99) := by rw [el]; rfl
  have g1 : q4_get lv 1 = some (.int (a1)) := by rw [el]; rfl
  rw [← el] at h
  clear el
  replace h := qa_aload (n := 0) (q := 1) (qa_e rfl h) rfl g0
  replace h := qa_gr (b := 116) (j := 23) (q := 4) (qa_e rfl h) rfl hM rfl (by decide)
  replace h := qa_push (z := (3 : Int32)) (q := 5) (qa_e rfl h) rfl (by decide)
  replace h := qa_iload (n := 1) (q := 6) (qa_e rfl h) rfl g1
  replace h := qa_imul (q := 7) (qa_e rfl h) rfl
  replace h := qa_iaload (jn := ((3 : Int32) * a1).toNatClampNeg) (q := 8) (qa_e rfl h) rfl hM es rfl
  obtain ⟨lv, h, g, T⟩ := qa_istore (n := 2) (q := 9) (qa_e rfl h) rfl
  replace g0 := T _ _ g0 (by decide) (Or.inr rfl)
  replace g1 := T _ _ g1 (by decide) (Or.inr rfl)
  have g2 := g
  clear g T
  replace h := qa_aload (n := 0) (q := 10) (qa_e rfl h) rfl g0
  replace h := qa_gr (b := 116) (j := 23) (q := 13) (qa_e rfl h) rfl hM rfl (by decide)
  replace h := qa_push (z := (3 : Int32)) (q := 14) (qa_e rfl h) rfl (by decide)
  replace h := qa_iload (n := 1) (q := 15) (qa_e rfl h) rfl g1
  replace h := qa_imul (q := 16) (qa_e rfl h) rfl
  replace h := qa_push (z := (1 : Int32)) (q := 17) (qa_e rfl h) rfl (by decide)
  replace h := qa_iadd (q := 18) (qa_e rfl h) rfl
  replace h := qa_iaload (jn := (((3 : Int32) * a1) + (1 : Int32)).toNatClampNeg) (q := 19) (qa_e rfl h) rfl hM es rfl
  obtain ⟨lv, h, g, T⟩ := qa_istore (n := 3) (q := 20) (qa_e rfl h) rfl
  replace g0 := T _ _ g0 (by decide) (Or.inr rfl)
  replace g1 := T _ _ g1 (by decide) (Or.inr rfl)
  replace g2 := T _ _ g2 (by decide) (Or.inr rfl)
  have g3 := g
  clear g T
  replace h := qa_aload (n := 0) (q := 21) (qa_e rfl h) rfl g0
  replace h := qa_gr (b := 116) (j := 23) (q := 24) (qa_e rfl h) rfl hM rfl (by decide)
  replace h := qa_push (z := (3 : Int32)) (q := 25) (qa_e rfl h) rfl (by decide)
  replace h := qa_iload (n := 1) (q := 26) (qa_e rfl h) rfl g1
  replace h := qa_imul (q := 27) (qa_e rfl h) rfl
  replace h := qa_push (z := (2 : Int32)) (q := 28) (qa_e rfl h) rfl (by decide)
  replace h := qa_iadd (q := 29) (qa_e rfl h) rfl
  replace h := qa_iaload (jn := (((3 : Int32) * a1) + (2 : Int32)).toNatClampNeg) (q := 30) (qa_e rfl h) rfl hM es rfl
  obtain ⟨lv, h, g, T⟩ := qa_istore (n := 4) (q := 32) (qa_e rfl h) rfl
  replace g0 := T _ _ g0 (by decide) (Or.inr rfl)
  replace g1 := T _ _ g1 (by decide) (Or.inr rfl)
  replace g2 := T _ _ g2 (by decide) (Or.inr rfl)
  replace g3 := T _ _ g3 (by decide) (Or.inr rfl)
  have g4 := g
  clear g T
  replace h := qa_push (z := (1 : Int32)) (q := 33) (qa_e rfl h) rfl (by decide)
  obtain ⟨lv, h, g, T⟩ := qa_istore (n := 5) (q := 35) (qa_e rfl h) rfl
  replace g0 := T _ _ g0 (by decide) (Or.inr rfl)
  replace g1 := T _ _ g1 (by decide) (Or.inr rfl)
  replace g2 := T _ _ g2 (by decide) (Or.inr rfl)
  replace g3 := T _ _ g3 (by decide) (Or.inr rfl)
  replace g4 := T _ _ g4 (by decide) (Or.inr rfl)
  clear g T
  replace h := qa_aload (n := 0) (q := 36) (qa_e rfl h) rfl g0
  replace h := qa_gr (b := 115) (j := 22) (q := 39) (qa_e rfl h) rfl hM rfl (by decide)
  replace h := qa_iload (n := 1) (q := 40) (qa_e rfl h) rfl g1
  replace h := qa_iaload (jn := a1.toNatClampNeg) (q := 41) (qa_e rfl h) rfl hM es rfl
  by_cases c1 : (σ 115 a1.toNatClampNeg) = (99 : Int32)
  · replace h := qa_ls (T := 76) (q := 76) (qa_e rfl h) (by rw [Op.lookupswitch.offset_cons, if_pos (qa_sp c1 (by decide))]) rfl
    replace h := qa_iload (n := 2) (q := 77) (qa_e rfl h) rfl g2
    replace h := qa_push (z := (6 : Int32)) (q := 79) (qa_e rfl h) rfl (by decide)
    obtain ⟨lv, M, h, hM, es, g0, g2, g3, g4⟩ : ∃ lv M, q4_run f 161 96 lv [.int ((if (σ 116 ((3 : Int32) * a1).toNatClampNeg) < (6 : Int32) then (if (σ 99 0) < (7 : Int32) then (1 : Int32) else (0 : Int32)) else (0 : Int32)))] M 0 0 = some r ∧ qa_O M ∧ qa_s M = σ ∧ q4_get lv 0 = some (.ref 99) ∧ q4_get lv 2 = some (.int ((σ 116 ((3 : Int32) * a1).toNatClampNeg))) ∧ q4_get lv 3 = some (.int ((σ 116 (((3 : Int32) * a1) + (1 : Int32)).toNatClampNeg))) ∧ q4_get lv 4 = some (.int ((σ 116 (((3 : Int32) * a1) + (2 : Int32)).toNatClampNeg))) := by
      by_cases c4 : (σ 116 ((3 : Int32) * a1).toNatClampNeg) < (6 : Int32)
      · replace h := qa_iff (q := 82) (qa_e rfl h) rfl (qa_F_ge c4)
        replace h := qa_aload (n := 0) (q := 83) (qa_e rfl h) rfl g0
        replace h := qa_gi (j := 0) (q := 86) (qa_e rfl h) rfl hM es rfl (by decide)
        replace h := qa_push (z := (7 : Int32)) (q := 88) (qa_e rfl h) rfl (by decide)
        obtain ⟨lv, M, h, hM, es, g0, g2, g3, g4⟩ : ∃ lv M, q4_run f 161 96 lv [.int ((if (σ 99 0) < (7 : Int32) then (1 : Int32) else (0 : Int32)))] M 0 0 = some r ∧ qa_O M ∧ qa_s M = σ ∧ q4_get lv 0 = some (.ref 99) ∧ q4_get lv 2 = some (.int ((σ 116 ((3 : Int32) * a1).toNatClampNeg))) ∧ q4_get lv 3 = some (.int ((σ 116 (((3 : Int32) * a1) + (1 : Int32)).toNatClampNeg))) ∧ q4_get lv 4 = some (.int ((σ 116 (((3 : Int32) * a1) + (2 : Int32)).toNatClampNeg))) := by
          by_cases c5 : (σ 99 0) < (7 : Int32)
          · replace h := qa_iff (q := 91) (qa_e rfl h) rfl (qa_F_ge c5)
            replace h := qa_push (z := (1 : Int32)) (q := 92) (qa_e rfl h) rfl (by decide)
            replace h := qa_goto (q := 96) (qa_e rfl h) rfl
            exact ⟨lv, M, (qa_hi1 c5 h), hM, es, g0, g2, g3, g4⟩
          · replace h := qa_ift (q := 95) (qa_e rfl h) rfl (qa_T_ge c5)
            replace h := qa_push (z := (0 : Int32)) (q := 96) (qa_e rfl h) rfl (by decide)
            exact ⟨lv, M, (qa_hi0 c5 h), hM, es, g0, g2, g3, g4⟩
        exact ⟨lv, M, (qa_hi1 c4 h), hM, es, g0, g2, g3, g4⟩
      · replace h := qa_ift (q := 95) (qa_e rfl h) rfl (qa_T_ge c4)
        replace h := qa_push (z := (0 : Int32)) (q := 96) (qa_e rfl h) rfl (by decide)
        exact ⟨lv, M, (qa_hi0 c4 h), hM, es, g0, g2, g3, g4⟩
    obtain ⟨lv, h, g, T⟩ := qa_istore (n := 5) (q := 98) (qa_e rfl h) rfl
    replace g0 := T _ _ g0 (by decide) (Or.inr rfl)
    replace g2 := T _ _ g2 (by decide) (Or.inr rfl)
    replace g3 := T _ _ g3 (by decide) (Or.inr rfl)
    replace g4 := T _ _ g4 (by decide) (Or.inr rfl)
    have g5 := g
    clear g T
    replace h := qa_iload (n := 5) (q := 100) (qa_e rfl h) rfl g5
    obtain ⟨m7, em7⟩ : ∃ x, x = (ma_162_99 N (σ 116 ((3 : Int32) * a1).toNatClampNeg) (σ 116 (((3 : Int32) * a1) + (1 : Int32)).toNatClampNeg) (σ 116 (((3 : Int32) * a1) + (2 : Int32)).toNatClampNeg) σ) := ⟨_, rfl⟩
    obtain ⟨m8, em8⟩ : ∃ x, x = (if (if (σ 116 ((3 : Int32) * a1).toNatClampNeg) < (6 : Int32) then (if (σ 99 0) < (7 : Int32) then (1 : Int32) else (0 : Int32)) else (0 : Int32)) = (0 : Int32) then σ else m7) := ⟨_, rfl⟩
    obtain ⟨lv, M, h, hM, es, g5⟩ : ∃ lv M, q4_run f 161 111 lv [] M 0 0 = some r ∧ qa_O M ∧ qa_s M = m8 ∧ q4_get lv 5 = some (.int ((if (σ 116 ((3 : Int32) * a1).toNatClampNeg) < (6 : Int32) then (if (σ 99 0) < (7 : Int32) then (1 : Int32) else (0 : Int32)) else (0 : Int32)))) := by
      by_cases c6 : (if (σ 116 ((3 : Int32) * a1).toNatClampNeg) < (6 : Int32) then (if (σ 99 0) < (7 : Int32) then (1 : Int32) else (0 : Int32)) else (0 : Int32)) = (0 : Int32)
      · replace h := qa_ict (q := 111) (qa_e rfl h) rfl (qa_T_eq c6)
        exact ⟨lv, M, h, hM, ((qa_ms1 c6 es).trans em8.symm), g5⟩
      · replace h := qa_icf (q := 103) (qa_e rfl h) rfl (qa_F_eq c6)
        replace h := qa_aload (n := 0) (q := 104) (qa_e rfl h) rfl g0
        replace h := qa_iload (n := 2) (q := 105) (qa_e rfl h) rfl g2
        replace h := qa_iload (n := 3) (q := 106) (qa_e rfl h) rfl g3
        replace h := qa_iload (n := 4) (q := 108) (qa_e rfl h) rfl g4
        obtain ⟨M, h, hM, es⟩ := qa_c0 (y := 162) (as := [.ref 99, .int ((σ 116 ((3 : Int32) * a1).toNatClampNeg)), .int ((σ 116 (((3 : Int32) * a1) + (1 : Int32)).toNatClampNeg)), .int ((σ 116 (((3 : Int32) * a1) + (2 : Int32)).toNatClampNeg))]) (rest := []) (i := .invokevirtual 162) (q := 111) (qa_e rfl h) (Or.inl rfl) rfl rfl (by decide) rfl (fun r hc => mb_162_99 hN hM es hc)
        rw [← em7] at es
        exact ⟨lv, M, h, hM, ((qa_ms0 c6 es).trans em8.symm), g5⟩
    replace h := qa_iload (n := 5) (q := 113) (qa_e rfl h) rfl g5
    have er := qa_ri (qa_e rfl h)
    subst er
    have e0 : ma_161_99 N a1 σ = ((if (σ 116 ((3 : Int32) * a1).toNatClampNeg) < (6 : Int32) then (if (σ 99 0) < (7 : Int32) then (1 : Int32) else (0 : Int32)) else (0 : Int32)), m8) := by exact Eq.trans (if_pos c1) (Eq.trans (qa_ie em7) (Eq.trans (qa_ie em8) (rfl)))
    rw [e0]
    exact ⟨rfl, hM, es⟩
  · by_cases c2 : (σ 115 a1.toNatClampNeg) = (115 : Int32)
    · replace h := qa_ls (T := 114) (q := 114) (qa_e rfl h) (by rw [Op.lookupswitch.offset_cons, if_neg (qa_sn c1 (by decide))]; rw [Op.lookupswitch.offset_cons, if_pos (qa_sp c2 (by decide))]) rfl
      replace h := qa_aload (n := 0) (q := 115) (qa_e rfl h) rfl g0
      replace h := qa_iload (n := 2) (q := 116) (qa_e rfl h) rfl g2
      obtain ⟨M, h, hM, es⟩ := qa_c1 (y := 163) (as := [.ref 99, .int ((σ 116 ((3 : Int32) * a1).toNatClampNeg))]) (rest := []) (i := .invokevirtual 163) (q := 119) (qa_e rfl h) (Or.inl rfl) rfl rfl (by decide) rfl (fun r hc => mb_163_99 hM es hc)
      obtain ⟨lv, h, g, T⟩ := qa_istore (n := 5) (q := 121) (qa_e rfl h) rfl
      replace g0 := T _ _ g0 (by decide) (Or.inr rfl)
      replace g2 := T _ _ g2 (by decide) (Or.inr rfl)
      replace g3 := T _ _ g3 (by decide) (Or.inr rfl)
      have g5 := g
      clear g T
      replace h := qa_iload (n := 5) (q := 123) (qa_e rfl h) rfl g5
      obtain ⟨m10, em10⟩ : ∃ x, x = qa_u σ 103 (σ 116 ((3 : Int32) * a1).toNatClampNeg).toNatClampNeg (σ 116 (((3 : Int32) * a1) + (1 : Int32)).toNatClampNeg) := ⟨_, rfl⟩
      obtain ⟨m11, em11⟩ : ∃ x, x = (if (ma_163_99 (σ 116 ((3 : Int32) * a1).toNatClampNeg) σ) = (0 : Int32) then σ else m10) := ⟨_, rfl⟩
      obtain ⟨lv, M, h, hM, es, g5⟩ : ∃ lv M, q4_run f 161 133 lv [] M 0 0 = some r ∧ qa_O M ∧ qa_s M = m11 ∧ q4_get lv 5 = some (.int ((ma_163_99 (σ 116 ((3 : Int32) * a1).toNatClampNeg) σ))) := by
        by_cases c9 : (ma_163_99 (σ 116 ((3 : Int32) * a1).toNatClampNeg) σ) = (0 : Int32)
        · replace h := qa_ict (q := 133) (qa_e rfl h) rfl (qa_T_eq c9)
          exact ⟨lv, M, h, hM, ((qa_ms1 c9 es).trans em11.symm), g5⟩
        · replace h := qa_icf (q := 126) (qa_e rfl h) rfl (qa_F_eq c9)
          replace h := qa_aload (n := 0) (q := 127) (qa_e rfl h) rfl g0
          replace h := qa_gr (b := 103) (j := 4) (q := 130) (qa_e rfl h) rfl hM rfl (by decide)
          replace h := qa_iload (n := 2) (q := 131) (qa_e rfl h) rfl g2
          replace h := qa_iload (n := 3) (q := 132) (qa_e rfl h) rfl g3
          obtain ⟨M, h, hM, es⟩ := qa_iastore (jn := (σ 116 ((3 : Int32) * a1).toNatClampNeg).toNatClampNeg) (q := 133) (qa_e rfl h) rfl hM es rfl
          rw [← em10] at es
          exact ⟨lv, M, h, hM, ((qa_ms0 c9 es).trans em11.symm), g5⟩
      replace h := qa_iload (n := 5) (q := 135) (qa_e rfl h) rfl g5
      have er := qa_ri (qa_e rfl h)
      subst er
      have e0 : ma_161_99 N a1 σ = ((ma_163_99 (σ 116 ((3 : Int32) * a1).toNatClampNeg) σ), m11) := by exact Eq.trans (if_neg c1) (Eq.trans (if_pos c2) (Eq.trans (qa_ie em10) (Eq.trans (qa_ie em11) (rfl))))
      rw [e0]
      exact ⟨rfl, hM, es⟩
    · by_cases c3 : (σ 115 a1.toNatClampNeg) = (116 : Int32)
      · replace h := qa_ls (T := 136) (q := 136) (qa_e rfl h) (by rw [Op.lookupswitch.offset_cons, if_neg (qa_sn c1 (by decide))]; rw [Op.lookupswitch.offset_cons, if_neg (qa_sn c2 (by decide))]; rw [Op.lookupswitch.offset_cons, if_pos (qa_sp c3 (by decide))]) rfl
        replace h := qa_iload (n := 2) (q := 137) (qa_e rfl h) rfl g2
        replace h := qa_i2l (q := 138) (qa_e rfl h) rfl
        replace h := qa_lpush (z := (1 : Int64)) (q := 139) (qa_e rfl h) rfl (by decide)
        replace h := qa_lpush (z := (15 : Int64)) (q := 142) (qa_e rfl h) rfl (by decide)
        obtain ⟨M, h, hM, es⟩ := qa_c1 (y := 158) (as := [.long (((σ 116 ((3 : Int32) * a1).toNatClampNeg)).toInt64), .long ((1 : Int64)), .long ((15 : Int64))]) (rest := []) (i := .invokestatic 158) (q := 145) (qa_e rfl h) (Or.inr rfl) rfl rfl (by decide) rfl (fun r hc => mb_158 hM es hc)
        obtain ⟨lv, M, h, hM, es, g0, g2, g3, g4⟩ : ∃ lv M, q4_run f 161 162 lv [.int ((if (ma_158 ((σ 116 ((3 : Int32) * a1).toNatClampNeg)).toInt64 (1 : Int64) (15 : Int64)) = (0 : Int32) then (0 : Int32) else (if (σ 99 5) < (6 : Int32) then (1 : Int32) else (0 : Int32))))] M 0 0 = some r ∧ qa_O M ∧ qa_s M = σ ∧ q4_get lv 0 = some (.ref 99) ∧ q4_get lv 2 = some (.int ((σ 116 ((3 : Int32) * a1).toNatClampNeg))) ∧ q4_get lv 3 = some (.int ((σ 116 (((3 : Int32) * a1) + (1 : Int32)).toNatClampNeg))) ∧ q4_get lv 4 = some (.int ((σ 116 (((3 : Int32) * a1) + (2 : Int32)).toNatClampNeg))) := by
          by_cases c12 : (ma_158 ((σ 116 ((3 : Int32) * a1).toNatClampNeg)).toInt64 (1 : Int64) (15 : Int64)) = (0 : Int32)
          · replace h := qa_ict (q := 161) (qa_e rfl h) rfl (qa_T_eq c12)
            replace h := qa_push (z := (0 : Int32)) (q := 162) (qa_e rfl h) rfl (by decide)
            exact ⟨lv, M, (qa_hi1 c12 h), hM, es, g0, g2, g3, g4⟩
          · replace h := qa_icf (q := 148) (qa_e rfl h) rfl (qa_F_eq c12)
            replace h := qa_aload (n := 0) (q := 149) (qa_e rfl h) rfl g0
            replace h := qa_gi (j := 5) (q := 152) (qa_e rfl h) rfl hM es rfl (by decide)
            replace h := qa_push (z := (6 : Int32)) (q := 154) (qa_e rfl h) rfl (by decide)
            obtain ⟨lv, M, h, hM, es, g0, g2, g3, g4⟩ : ∃ lv M, q4_run f 161 162 lv [.int ((if (σ 99 5) < (6 : Int32) then (1 : Int32) else (0 : Int32)))] M 0 0 = some r ∧ qa_O M ∧ qa_s M = σ ∧ q4_get lv 0 = some (.ref 99) ∧ q4_get lv 2 = some (.int ((σ 116 ((3 : Int32) * a1).toNatClampNeg))) ∧ q4_get lv 3 = some (.int ((σ 116 (((3 : Int32) * a1) + (1 : Int32)).toNatClampNeg))) ∧ q4_get lv 4 = some (.int ((σ 116 (((3 : Int32) * a1) + (2 : Int32)).toNatClampNeg))) := by
              by_cases c13 : (σ 99 5) < (6 : Int32)
              · replace h := qa_iff (q := 157) (qa_e rfl h) rfl (qa_F_ge c13)
                replace h := qa_push (z := (1 : Int32)) (q := 158) (qa_e rfl h) rfl (by decide)
                replace h := qa_goto (q := 162) (qa_e rfl h) rfl
                exact ⟨lv, M, (qa_hi1 c13 h), hM, es, g0, g2, g3, g4⟩
              · replace h := qa_ift (q := 161) (qa_e rfl h) rfl (qa_T_ge c13)
                replace h := qa_push (z := (0 : Int32)) (q := 162) (qa_e rfl h) rfl (by decide)
                exact ⟨lv, M, (qa_hi0 c13 h), hM, es, g0, g2, g3, g4⟩
            exact ⟨lv, M, (qa_hi0 c12 h), hM, es, g0, g2, g3, g4⟩
        obtain ⟨lv, h, g, T⟩ := qa_istore (n := 5) (q := 164) (qa_e rfl h) rfl
        replace g0 := T _ _ g0 (by decide) (Or.inr rfl)
        replace g2 := T _ _ g2 (by decide) (Or.inr rfl)
        replace g3 := T _ _ g3 (by decide) (Or.inr rfl)
        replace g4 := T _ _ g4 (by decide) (Or.inr rfl)
        have g5 := g
        clear g T
        replace h := qa_iload (n := 5) (q := 166) (qa_e rfl h) rfl g5
        obtain ⟨m15, em15⟩ : ∃ x, x = (ma_164_99 (σ 116 ((3 : Int32) * a1).toNatClampNeg) (σ 116 (((3 : Int32) * a1) + (1 : Int32)).toNatClampNeg) (σ 116 (((3 : Int32) * a1) + (2 : Int32)).toNatClampNeg) σ) := ⟨_, rfl⟩
        obtain ⟨m16, em16⟩ : ∃ x, x = (if (if (ma_158 ((σ 116 ((3 : Int32) * a1).toNatClampNeg)).toInt64 (1 : Int64) (15 : Int64)) = (0 : Int32) then (0 : Int32) else (if (σ 99 5) < (6 : Int32) then (1 : Int32) else (0 : Int32))) = (0 : Int32) then σ else m15) := ⟨_, rfl⟩
        obtain ⟨lv, M, h, hM, es, g5⟩ : ∃ lv M, q4_run f 161 177 lv [] M 0 0 = some r ∧ qa_O M ∧ qa_s M = m16 ∧ q4_get lv 5 = some (.int ((if (ma_158 ((σ 116 ((3 : Int32) * a1).toNatClampNeg)).toInt64 (1 : Int64) (15 : Int64)) = (0 : Int32) then (0 : Int32) else (if (σ 99 5) < (6 : Int32) then (1 : Int32) else (0 : Int32))))) := by
          by_cases c14 : (if (ma_158 ((σ 116 ((3 : Int32) * a1).toNatClampNeg)).toInt64 (1 : Int64) (15 : Int64)) = (0 : Int32) then (0 : Int32) else (if (σ 99 5) < (6 : Int32) then (1 : Int32) else (0 : Int32))) = (0 : Int32)
          · replace h := qa_ict (q := 177) (qa_e rfl h) rfl (qa_T_eq c14)
            exact ⟨lv, M, h, hM, ((qa_ms1 c14 es).trans em16.symm), g5⟩
          · replace h := qa_icf (q := 169) (qa_e rfl h) rfl (qa_F_eq c14)
            replace h := qa_aload (n := 0) (q := 170) (qa_e rfl h) rfl g0
            replace h := qa_iload (n := 2) (q := 171) (qa_e rfl h) rfl g2
            replace h := qa_iload (n := 3) (q := 172) (qa_e rfl h) rfl g3
            replace h := qa_iload (n := 4) (q := 174) (qa_e rfl h) rfl g4
            obtain ⟨M, h, hM, es⟩ := qa_c0 (y := 164) (as := [.ref 99, .int ((σ 116 ((3 : Int32) * a1).toNatClampNeg)), .int ((σ 116 (((3 : Int32) * a1) + (1 : Int32)).toNatClampNeg)), .int ((σ 116 (((3 : Int32) * a1) + (2 : Int32)).toNatClampNeg))]) (rest := []) (i := .invokevirtual 164) (q := 177) (qa_e rfl h) (Or.inl rfl) rfl rfl (by decide) rfl (fun r hc => mb_164_99 hM es hc)
            rw [← em15] at es
            exact ⟨lv, M, h, hM, ((qa_ms0 c14 es).trans em16.symm), g5⟩
        replace h := qa_iload (n := 5) (q := 179) (qa_e rfl h) rfl g5
        have er := qa_ri (qa_e rfl h)
        subst er
        have e0 : ma_161_99 N a1 σ = ((if (ma_158 ((σ 116 ((3 : Int32) * a1).toNatClampNeg)).toInt64 (1 : Int64) (15 : Int64)) = (0 : Int32) then (0 : Int32) else (if (σ 99 5) < (6 : Int32) then (1 : Int32) else (0 : Int32))), m16) := by exact Eq.trans (if_neg c1) (Eq.trans (if_neg c2) (Eq.trans (if_pos c3) (Eq.trans (qa_ie em15) (Eq.trans (qa_ie em16) (rfl)))))
        rw [e0]
        exact ⟨rfl, hM, es⟩
      · replace h := qa_ls (T := 180) (q := 180) (qa_e rfl h) (by rw [Op.lookupswitch.offset_cons, if_neg (qa_sn c1 (by decide))]; rw [Op.lookupswitch.offset_cons, if_neg (qa_sn c2 (by decide))]; rw [Op.lookupswitch.offset_cons, if_neg (qa_sn c3 (by decide))]; rfl) rfl
        replace h := qa_aload (n := 0) (q := 181) (qa_e rfl h) rfl g0
        replace h := qa_iload (n := 2) (q := 182) (qa_e rfl h) rfl g2
        obtain ⟨M, h, hM, es⟩ := qa_c1 (y := 163) (as := [.ref 99, .int ((σ 116 ((3 : Int32) * a1).toNatClampNeg))]) (rest := []) (i := .invokevirtual 163) (q := 185) (qa_e rfl h) (Or.inl rfl) rfl rfl (by decide) rfl (fun r hc => mb_163_99 hM es hc)
        obtain ⟨lv, M, h, hM, es, g0, g2, g3, g4⟩ : ∃ lv M, q4_run f 161 200 lv [.int ((if (ma_163_99 (σ 116 ((3 : Int32) * a1).toNatClampNeg) σ) = (0 : Int32) then (0 : Int32) else (if (ma_165 (σ 116 (((3 : Int32) * a1) + (1 : Int32)).toNatClampNeg)) = (0 : Int32) then (0 : Int32) else (1 : Int32))))] M 0 0 = some r ∧ qa_O M ∧ qa_s M = σ ∧ q4_get lv 0 = some (.ref 99) ∧ q4_get lv 2 = some (.int ((σ 116 ((3 : Int32) * a1).toNatClampNeg))) ∧ q4_get lv 3 = some (.int ((σ 116 (((3 : Int32) * a1) + (1 : Int32)).toNatClampNeg))) ∧ q4_get lv 4 = some (.int ((σ 116 (((3 : Int32) * a1) + (2 : Int32)).toNatClampNeg))) := by
          by_cases c17 : (ma_163_99 (σ 116 ((3 : Int32) * a1).toNatClampNeg) σ) = (0 : Int32)
          · replace h := qa_ict (q := 199) (qa_e rfl h) rfl (qa_T_eq c17)
            replace h := qa_push (z := (0 : Int32)) (q := 200) (qa_e rfl h) rfl (by decide)
            exact ⟨lv, M, (qa_hi1 c17 h), hM, es, g0, g2, g3, g4⟩
          · replace h := qa_icf (q := 188) (qa_e rfl h) rfl (qa_F_eq c17)
            replace h := qa_iload (n := 3) (q := 189) (qa_e rfl h) rfl g3
            obtain ⟨M, h, hM, es⟩ := qa_c1 (y := 165) (as := [.int ((σ 116 (((3 : Int32) * a1) + (1 : Int32)).toNatClampNeg))]) (rest := []) (i := .invokestatic 165) (q := 192) (qa_e rfl h) (Or.inr rfl) rfl rfl (by decide) rfl (fun r hc => mb_165 hM es hc)
            obtain ⟨lv, M, h, hM, es, g0, g2, g3, g4⟩ : ∃ lv M, q4_run f 161 200 lv [.int ((if (ma_165 (σ 116 (((3 : Int32) * a1) + (1 : Int32)).toNatClampNeg)) = (0 : Int32) then (0 : Int32) else (1 : Int32)))] M 0 0 = some r ∧ qa_O M ∧ qa_s M = σ ∧ q4_get lv 0 = some (.ref 99) ∧ q4_get lv 2 = some (.int ((σ 116 ((3 : Int32) * a1).toNatClampNeg))) ∧ q4_get lv 3 = some (.int ((σ 116 (((3 : Int32) * a1) + (1 : Int32)).toNatClampNeg))) ∧ q4_get lv 4 = some (.int ((σ 116 (((3 : Int32) * a1) + (2 : Int32)).toNatClampNeg))) := by
              by_cases c18 : (ma_165 (σ 116 (((3 : Int32) * a1) + (1 : Int32)).toNatClampNeg)) = (0 : Int32)
              · replace h := qa_ict (q := 199) (qa_e rfl h) rfl (qa_T_eq c18)
                replace h := qa_push (z := (0 : Int32)) (q := 200) (qa_e rfl h) rfl (by decide)
                exact ⟨lv, M, (qa_hi1 c18 h), hM, es, g0, g2, g3, g4⟩
              · replace h := qa_icf (q := 195) (qa_e rfl h) rfl (qa_F_eq c18)
                replace h := qa_push (z := (1 : Int32)) (q := 196) (qa_e rfl h) rfl (by decide)
                replace h := qa_goto (q := 200) (qa_e rfl h) rfl
                exact ⟨lv, M, (qa_hi0 c18 h), hM, es, g0, g2, g3, g4⟩
            exact ⟨lv, M, (qa_hi0 c17 h), hM, es, g0, g2, g3, g4⟩
        obtain ⟨lv, h, g, T⟩ := qa_istore (n := 5) (q := 202) (qa_e rfl h) rfl
        replace g0 := T _ _ g0 (by decide) (Or.inr rfl)
        replace g2 := T _ _ g2 (by decide) (Or.inr rfl)
        replace g3 := T _ _ g3 (by decide) (Or.inr rfl)
        replace g4 := T _ _ g4 (by decide) (Or.inr rfl)
        have g5 := g
        clear g T
        replace h := qa_iload (n := 5) (q := 204) (qa_e rfl h) rfl g5
        obtain ⟨m20, em20⟩ : ∃ x, x = qa_u σ 102 (((4 : Int32) * (σ 116 ((3 : Int32) * a1).toNatClampNeg)) + (σ 116 (((3 : Int32) * a1) + (1 : Int32)).toNatClampNeg)).toNatClampNeg (σ 116 (((3 : Int32) * a1) + (2 : Int32)).toNatClampNeg) := ⟨_, rfl⟩
        obtain ⟨m21, em21⟩ : ∃ x, x = (if (if (ma_163_99 (σ 116 ((3 : Int32) * a1).toNatClampNeg) σ) = (0 : Int32) then (0 : Int32) else (if (ma_165 (σ 116 (((3 : Int32) * a1) + (1 : Int32)).toNatClampNeg)) = (0 : Int32) then (0 : Int32) else (1 : Int32))) = (0 : Int32) then σ else m20) := ⟨_, rfl⟩
        obtain ⟨lv, M, h, hM, es, g5⟩ : ∃ lv M, q4_run f 161 219 lv [] M 0 0 = some r ∧ qa_O M ∧ qa_s M = m21 ∧ q4_get lv 5 = some (.int ((if (ma_163_99 (σ 116 ((3 : Int32) * a1).toNatClampNeg) σ) = (0 : Int32) then (0 : Int32) else (if (ma_165 (σ 116 (((3 : Int32) * a1) + (1 : Int32)).toNatClampNeg)) = (0 : Int32) then (0 : Int32) else (1 : Int32))))) := by
          by_cases c19 : (if (ma_163_99 (σ 116 ((3 : Int32) * a1).toNatClampNeg) σ) = (0 : Int32) then (0 : Int32) else (if (ma_165 (σ 116 (((3 : Int32) * a1) + (1 : Int32)).toNatClampNeg)) = (0 : Int32) then (0 : Int32) else (1 : Int32))) = (0 : Int32)
          · replace h := qa_ict (q := 219) (qa_e rfl h) rfl (qa_T_eq c19)
            exact ⟨lv, M, h, hM, ((qa_ms1 c19 es).trans em21.symm), g5⟩
          · replace h := qa_icf (q := 207) (qa_e rfl h) rfl (qa_F_eq c19)
            replace h := qa_aload (n := 0) (q := 208) (qa_e rfl h) rfl g0
            replace h := qa_gr (b := 102) (j := 3) (q := 211) (qa_e rfl h) rfl hM rfl (by decide)
            replace h := qa_push (z := (4 : Int32)) (q := 212) (qa_e rfl h) rfl (by decide)
            replace h := qa_iload (n := 2) (q := 213) (qa_e rfl h) rfl g2
            replace h := qa_imul (q := 214) (qa_e rfl h) rfl
            replace h := qa_iload (n := 3) (q := 215) (qa_e rfl h) rfl g3
            replace h := qa_iadd (q := 216) (qa_e rfl h) rfl
            replace h := qa_iload (n := 4) (q := 218) (qa_e rfl h) rfl g4
            obtain ⟨M, h, hM, es⟩ := qa_iastore (jn := (((4 : Int32) * (σ 116 ((3 : Int32) * a1).toNatClampNeg)) + (σ 116 (((3 : Int32) * a1) + (1 : Int32)).toNatClampNeg)).toNatClampNeg) (q := 219) (qa_e rfl h) rfl hM es rfl
            rw [← em20] at es
            exact ⟨lv, M, h, hM, ((qa_ms0 c19 es).trans em21.symm), g5⟩
        replace h := qa_iload (n := 5) (q := 221) (qa_e rfl h) rfl g5
        have er := qa_ri (qa_e rfl h)
        subst er
        have e0 : ma_161_99 N a1 σ = ((if (ma_163_99 (σ 116 ((3 : Int32) * a1).toNatClampNeg) σ) = (0 : Int32) then (0 : Int32) else (if (ma_165 (σ 116 (((3 : Int32) * a1) + (1 : Int32)).toNatClampNeg)) = (0 : Int32) then (0 : Int32) else (1 : Int32))), m21) := by exact Eq.trans (if_neg c1) (Eq.trans (if_neg c2) (Eq.trans (if_neg c3) (Eq.trans (qa_ie em20) (Eq.trans (qa_ie em21) (rfl)))))
        rw [e0]
        exact ⟨rfl, hM, es⟩
