noncomputable def mc_219_99_p13 (N : Nat) (s : Int32 × Int32 × qa_S) : (Int32 × Int32 × qa_S) ⊕ (Int32 × Int32 × qa_S) :=
  if s.1 < (s.2.2 99 0) then
    qa_in (qa_u s.2.2 100 s.1.toNatClampNeg (4 : Int32)) fun m3 =>
    qa_in ((ma_181_99 N m3)) fun m4 =>
    qa_in ((ma_218_99 N m4)) fun r5 =>
    qa_in (qa_u r5.2 100 s.1.toNatClampNeg (s.2.2 100 s.1.toNatClampNeg)) fun m7 =>
    qa_in ((if (0 : Int32) < (s.2.2 103 s.1.toNatClampNeg) then m7 else s.2.2)) fun m8 =>
    .inl ((s.1 + (1 : Int32)), (if (0 : Int32) < (s.2.2 103 s.1.toNatClampNeg) then (s.2.1 ||| (if r5.1 = (0 : Int32) then ((1 : Int32) <<< (s.1 &&& 31)) else (0 : Int32))) else s.2.1), m8)
  else
    .inr (s.1, s.2.1, s.2.2)
theorem md_219_99_p13 {N F : Nat} {r : Option Value × q4_M} (hN : F ≤ N) : ∀ f n, f ≤ n → f ≤ F → ∀ (s : Int32 × Int32 × qa_S) (lv : List (Nat × Value)) (M : q4_M), qa_O M → qa_s M = s.2.2 → q4_get lv 0 = some (.ref 99) → q4_get lv 1 = some (.int (s.2.1)) → q4_get lv 2 = some (.int (s.1)) → q4_run f 219 13 lv [] M 0 0 = some r → ∃ lv M, q4_run F 219 78 lv [] M 0 0 = some r ∧ qa_O M ∧ qa_s M = (qa_wh (fun s => s) (mc_219_99_p13 N) n s).2.2 ∧ q4_get lv 1 = some (.int ((qa_wh (fun s => s) (mc_219_99_p13 N) n s).2.1)) := by
  intro f
  induction f with
  | zero => intro n _ _ s lv M hM es _ _ _ h; cases h
  | succ f ih =>
    intro n hn hF s lv M hM es g0 g1 g2 h
    obtain ⟨n, rfl⟩ : ∃ n1, n = n1 + 1 := ⟨n - 1, by omega⟩
    replace hn : f ≤ n := Nat.le_of_succ_le_succ hn
    have hN := Nat.le_trans (Nat.le_of_succ_le hF) hN
    replace h := qa_iload (n := 2) (q := 14) (qa_d rfl h) rfl g2
    replace h := qa_aload (n := 0) (q := 15) (qa_e rfl h) rfl g0
    replace h := qa_gi (j := 0) (q := 18) (qa_e rfl h) rfl hM es rfl (by decide)
    by_cases c1 : s.1 < (s.2.2 99 0)
    · replace h := qa_iff (q := 21) (qa_e rfl h) rfl (qa_F_ge c1)
      replace h := qa_aload (n := 0) (q := 22) (qa_e rfl h) rfl g0
      replace h := qa_gr (b := 103) (j := 4) (q := 25) (qa_e rfl h) rfl hM rfl (by decide)
      replace h := qa_iload (n := 2) (q := 26) (qa_e rfl h) rfl g2
      replace h := qa_iaload (jn := s.1.toNatClampNeg) (q := 27) (qa_e rfl h) rfl hM es rfl
      obtain ⟨m3, em3⟩ : ∃ x, x = qa_u s.2.2 100 s.1.toNatClampNeg (4 : Int32) := ⟨_, rfl⟩
      obtain ⟨m4, em4⟩ : ∃ x, x = (ma_181_99 N m3) := ⟨_, rfl⟩
      obtain ⟨r5, er5⟩ : ∃ x, x = (ma_218_99 N m4) := ⟨_, rfl⟩
      obtain ⟨m7, em7⟩ : ∃ x, x = qa_u r5.2 100 s.1.toNatClampNeg (s.2.2 100 s.1.toNatClampNeg) := ⟨_, rfl⟩
      obtain ⟨m8, em8⟩ : ∃ x, x = (if (0 : Int32) < (s.2.2 103 s.1.toNatClampNeg) then m7 else s.2.2) := ⟨_, rfl⟩
      obtain ⟨lv, M, h, hM, es, g0, g1, g2⟩ : ∃ lv M, q4_run f 219 72 lv [] M 0 0 = some r ∧ qa_O M ∧ qa_s M = m8 ∧ q4_get lv 0 = some (.ref 99) ∧ q4_get lv 1 = some (.int ((if (0 : Int32) < (s.2.2 103 s.1.toNatClampNeg) then (s.2.1 ||| (if r5.1 = (0 : Int32) then ((1 : Int32) <<< (s.1 &&& 31)) else (0 : Int32))) else s.2.1))) ∧ q4_get lv 2 = some (.int (s.1)) := by
        by_cases c2 : (0 : Int32) < (s.2.2 103 s.1.toNatClampNeg)
        · replace h := qa_icf (q := 30) (qa_e rfl h) rfl (qa_F_le c2)
          replace h := qa_aload (n := 0) (q := 31) (qa_e rfl h) rfl g0
          replace h := qa_gr (b := 100) (j := 1) (q := 34) (qa_e rfl h) rfl hM rfl (by decide)
          replace h := qa_iload (n := 2) (q := 35) (qa_e rfl h) rfl g2
          replace h := qa_iaload (jn := s.1.toNatClampNeg) (q := 36) (qa_e rfl h) rfl hM es rfl
          obtain ⟨lv, h, g, T⟩ := qa_istore (n := 3) (q := 37) (qa_e rfl h) rfl
          replace g0 := T _ _ g0 (by decide) (Or.inr rfl)
          replace g1 := T _ _ g1 (by decide) (Or.inr rfl)
          replace g2 := T _ _ g2 (by decide) (Or.inr rfl)
          have g3 := g
          clear g T
          replace h := qa_aload (n := 0) (q := 38) (qa_e rfl h) rfl g0
          replace h := qa_gr (b := 100) (j := 1) (q := 41) (qa_e rfl h) rfl hM rfl (by decide)
          replace h := qa_iload (n := 2) (q := 42) (qa_e rfl h) rfl g2
          replace h := qa_push (z := (4 : Int32)) (q := 43) (qa_e rfl h) rfl (by decide)
          obtain ⟨M, h, hM, es⟩ := qa_iastore (jn := s.1.toNatClampNeg) (q := 44) (qa_e rfl h) rfl hM es rfl
          rw [← em3] at es
          replace h := qa_aload (n := 0) (q := 45) (qa_e rfl h) rfl g0
          obtain ⟨M, h, hM, es⟩ := qa_c0 (y := 181) (as := [.ref 99]) (rest := []) (i := .invokevirtual 181) (q := 48) (qa_e rfl h) (Or.inl rfl) rfl rfl (by decide) rfl (fun r hc => mb_181_99 hN hM es hc)
          rw [← em4] at es
          replace h := qa_iload (n := 1) (q := 49) (qa_e rfl h) rfl g1
          replace h := qa_aload (n := 0) (q := 50) (qa_e rfl h) rfl g0
          obtain ⟨M, h, hM, es⟩ := qa_c1 (y := 218) (as := [.ref 99]) (rest := [.int (s.2.1)]) (i := .invokevirtual 218) (q := 53) (qa_e rfl h) (Or.inl rfl) rfl rfl (by decide) rfl (fun r hc => mb_218_99 hN hM es hc)
          rw [← er5] at h es
          obtain ⟨lv, M, h, hM, es, g0, g2, g3⟩ : ∃ lv M, q4_run f 219 63 lv [.int ((if r5.1 = (0 : Int32) then ((1 : Int32) <<< (s.1 &&& 31)) else (0 : Int32))), .int (s.2.1)] M 0 0 = some r ∧ qa_O M ∧ qa_s M = r5.2 ∧ q4_get lv 0 = some (.ref 99) ∧ q4_get lv 2 = some (.int (s.1)) ∧ q4_get lv 3 = some (.int ((s.2.2 100 s.1.toNatClampNeg))) := by
            by_cases c6 : r5.1 = (0 : Int32)
            · replace h := qa_icf (q := 56) (qa_e rfl h) rfl (qa_F_ne c6)
              replace h := qa_push (z := (1 : Int32)) (q := 57) (qa_e rfl h) rfl (by decide)
              replace h := qa_iload (n := 2) (q := 58) (qa_e rfl h) rfl g2
              replace h := qa_ishl (q := 59) (qa_e rfl h) rfl
              replace h := qa_goto (q := 63) (qa_e rfl h) rfl
              exact ⟨lv, M, (qa_hi1 c6 h), hM, es, g0, g2, g3⟩
            · replace h := qa_ict (q := 62) (qa_e rfl h) rfl (qa_T_ne c6)
              replace h := qa_push (z := (0 : Int32)) (q := 63) (qa_e rfl h) rfl (by decide)
              exact ⟨lv, M, (qa_hi0 c6 h), hM, es, g0, g2, g3⟩
          replace h := qa_ior (q := 64) (qa_e rfl h) rfl
          obtain ⟨lv, h, g, T⟩ := qa_istore (n := 1) (q := 65) (qa_e rfl h) rfl
          replace g0 := T _ _ g0 (by decide) (Or.inr rfl)
          replace g2 := T _ _ g2 (by decide) (Or.inr rfl)
          replace g3 := T _ _ g3 (by decide) (Or.inr rfl)
          have g1 := g
          clear g T
          replace h := qa_aload (n := 0) (q := 66) (qa_e rfl h) rfl g0
          replace h := qa_gr (b := 100) (j := 1) (q := 69) (qa_e rfl h) rfl hM rfl (by decide)
          replace h := qa_iload (n := 2) (q := 70) (qa_e rfl h) rfl g2
          replace h := qa_iload (n := 3) (q := 71) (qa_e rfl h) rfl g3
          obtain ⟨M, h, hM, es⟩ := qa_iastore (jn := s.1.toNatClampNeg) (q := 72) (qa_e rfl h) rfl hM es rfl
          rw [← em7] at es
          exact ⟨lv, M, h, hM, ((qa_ms1 c2 es).trans em8.symm), g0, (qa_gi1 c2 g1), g2⟩
        · replace h := qa_ict (q := 72) (qa_e rfl h) rfl (qa_T_le c2)
          exact ⟨lv, M, h, hM, ((qa_ms0 c2 es).trans em8.symm), g0, (qa_gi0 c2 g1), g2⟩
      obtain ⟨lv, h, g, T⟩ := qa_iinc (n := 2) (z := (1 : Int32)) (q := 75) (qa_e rfl h) rfl (by decide) g2
      replace g0 := T _ _ g0 (by decide) (Or.inr rfl)
      replace g1 := T _ _ g1 (by decide) (Or.inr rfl)
      replace g2 := g
      clear g T
      replace h := qa_goto (q := 13) (qa_e rfl h) rfl
      have e0 : mc_219_99_p13 N s = .inl ((s.1 + (1 : Int32)), (if (0 : Int32) < (s.2.2 103 s.1.toNatClampNeg) then (s.2.1 ||| (if r5.1 = (0 : Int32) then ((1 : Int32) <<< (s.1 &&& 31)) else (0 : Int32))) else s.2.1), m8) := by exact Eq.trans (if_pos c1) (Eq.trans (qa_ie em3) (Eq.trans (qa_ie em4) (Eq.trans (qa_ie er5) (Eq.trans (qa_ie em7) (Eq.trans (qa_ie em8) (rfl))))))
      rw [qa_whl e0]
      exact ih n hn (Nat.le_of_succ_le hF) ((s.1 + (1 : Int32)), (if (0 : Int32) < (s.2.2 103 s.1.toNatClampNeg) then (s.2.1 ||| (if r5.1 = (0 : Int32) then ((1 : Int32) <<< (s.1 &&& 31)) else (0 : Int32))) else s.2.1), m8) _ _ hM es g0 g1 g2 h
    · replace h := qa_ift (q := 78) (qa_e rfl h) rfl (qa_T_ge c1)
      have e0 : mc_219_99_p13 N s = .inr (s.1, s.2.1, s.2.2) := by exact Eq.trans (if_neg c1) (rfl)
      rw [qa_whr e0]
      exact ⟨_, _, q61_mono f F _ _ _ _ _ _ _ _ (Nat.le_of_succ_le hF) h, hM, es, g1⟩
/-- BuriedBySevensModel, emptyOnes, ()I -/
noncomputable def ma_219_99 (N : Nat) (σ : qa_S) : Int32 × qa_S :=
  qa_in (qa_u σ 99 9 (0 : Int32)) fun m1 =>
  qa_in ((ma_180_99 N m1)) fun m2 =>
  qa_in ((qa_wh (fun s => s) (mc_219_99_p13 N) N ((0 : Int32), (0 : Int32), m2))) fun r3 =>
  (r3.2.1, r3.2.2)
theorem mb_219_99 {f N : Nat} (hN : f ≤ N) {M : q4_M} {r : Option Value × q4_M} {σ : qa_S} (hM : qa_O M) (es : qa_s M = σ) (h : q4_run f 219 0 (lv_args 0 [.ref 99]) [] M 0 0 = some r) : r.1 = some (.int ((ma_219_99 N σ).1)) ∧ qa_O r.2 ∧ qa_s r.2 = (ma_219_99 N σ).2 := by
  obtain ⟨lv, el⟩ : ∃ l, l = lv_args 0 [.ref 99] := ⟨_, rfl⟩
  have g0 : q4_get lv 0 = some (.ref 99) := by rw [el]; rfl
  rw [← el] at h
  clear el
  replace h := qa_aload (n := 0) (q := 1) (qa_e rfl h) rfl g0
  replace h := qa_push (z := (0 : Int32)) (q := 2) (qa_e rfl h) rfl (by decide)
  obtain ⟨m1, em1⟩ : ∃ x, x = qa_u σ 99 9 (0 : Int32) := ⟨_, rfl⟩
  obtain ⟨M, h, hM, es⟩ := qa_pf (j := 9) (q := 5) (qa_e rfl h) rfl hM es rfl (by decide)
  rw [← em1] at es
  replace h := qa_push (z := (0 : Int32)) (q := 6) (qa_e rfl h) rfl (by decide)
  obtain ⟨lv, h, g, T⟩ := qa_istore (n := 1) (q := 7) (qa_e rfl h) rfl
  replace g0 := T _ _ g0 (by decide) (Or.inr rfl)
  have g1 := g
  clear g T
  replace h := qa_aload (n := 0) (q := 8) (qa_e rfl h) rfl g0
  obtain ⟨m2, em2⟩ : ∃ x, x = (ma_180_99 N m1) := ⟨_, rfl⟩
  obtain ⟨M, h, hM, es⟩ := qa_c0 (y := 180) (as := [.ref 99]) (rest := []) (i := .invokevirtual 180) (q := 11) (qa_e rfl h) (Or.inl rfl) rfl rfl (by decide) rfl (fun r hc => mb_180_99 hN hM es hc)
  rw [← em2] at es
  replace h := qa_push (z := (0 : Int32)) (q := 12) (qa_e rfl h) rfl (by decide)
  obtain ⟨lv, h, g, T⟩ := qa_istore (n := 2) (q := 13) (qa_e rfl h) rfl
  replace g0 := T _ _ g0 (by decide) (Or.inr rfl)
  replace g1 := T _ _ g1 (by decide) (Or.inr rfl)
  have g2 := g
  clear g T
  obtain ⟨r3, er3⟩ : ∃ x, x = (qa_wh (fun s => s) (mc_219_99_p13 N) N ((0 : Int32), (0 : Int32), m2)) := ⟨_, rfl⟩
  have L := md_219_99_p13 (F := f) (N := N) (r := r) hN f N hN (Nat.le_refl f) ((0 : Int32), (0 : Int32), m2) _ _ hM es g0 g1 g2 h
  rw [← er3] at L
  obtain ⟨lv, M, h, hM, es, g1⟩ := L
  replace h := qa_iload (n := 1) (q := 79) (qa_e rfl h) rfl g1
  have er := qa_ri (qa_e rfl h)
  subst er
  have e0 : ma_219_99 N σ = (r3.2.1, r3.2.2) := by exact Eq.trans (qa_ie em1) (Eq.trans (qa_ie em2) (Eq.trans (qa_ie er3) (rfl)))
  rw [e0]
  exact ⟨rfl, hM, es⟩
noncomputable def mc_220_99_p130 (N : Nat) (l3 : Int32) (l6 : Int32) (l7 : Int32) (σ : qa_S) (s : Int32) : (Int32) ⊕ ((Int32) ⊕ (Int32)) :=
  if (99 : Int32) < s then
    .inr (.inr s)
  else
    if ((l6 - l7) * l3) < (l7 * s) then
      .inr (.inl s)
    else
      .inl (s + (1 : Int32))
theorem md_220_99_p130 {N F : Nat} {r : Option Value × q4_M} {l3 : Int32} {l6 : Int32} {l7 : Int32} {σ : qa_S} (hN : F ≤ N) : ∀ f n, f ≤ n → f ≤ F → ∀ (s : Int32) (lv : List (Nat × Value)) (M : q4_M), qa_O M → qa_s M = σ → q4_get lv 3 = some (.int (l3)) → q4_get lv 6 = some (.int (l6)) → q4_get lv 7 = some (.int (l7)) → q4_get lv 8 = some (.int (s)) → q4_run f 220 130 lv [] M 0 0 = some r → (∀ b, (qa_wh (fun s => .inr s) (mc_220_99_p130 N l3 l6 l7 σ) n s) = .inl b → r.1 = some (.int (b)) ∧ qa_O r.2 ∧ qa_s r.2 = σ) ∧ (∀ b, (qa_wh (fun s => .inr s) (mc_220_99_p130 N l3 l6 l7 σ) n s) = .inr b → ∃ lv M, q4_run F 220 161 lv [] M 0 0 = some r ∧ qa_O M ∧ qa_s M = σ) := by
  intro f
  induction f with
  | zero => intro n _ _ s lv M hM es _ _ _ _ h; cases h
  | succ f ih =>
    intro n hn hF s lv M hM es g3 g6 g7 g8 h
    obtain ⟨n, rfl⟩ : ∃ n1, n = n1 + 1 := ⟨n - 1, by omega⟩
    replace hn : f ≤ n := Nat.le_of_succ_le_succ hn
    have hN := Nat.le_trans (Nat.le_of_succ_le hF) hN
    replace h := qa_iload (n := 8) (q := 132) (qa_d rfl h) rfl g8
    replace h := qa_push (z := (99 : Int32)) (q := 134) (qa_e rfl h) rfl (by decide)
    by_cases c1 : (99 : Int32) < s
    · replace h := qa_ift (q := 161) (qa_e rfl h) rfl (qa_T_gt c1)
      have e0 : mc_220_99_p130 N l3 l6 l7 σ s = .inr (.inr s) := by exact Eq.trans (if_pos c1) (rfl)
      rw [qa_whr e0]
      exact ⟨fun b hb => (nomatch hb), fun b hb => (by have e := Sum.inr.inj hb; subst e; exact ⟨_, _, q61_mono f F _ _ _ _ _ _ _ _ (Nat.le_of_succ_le hF) h, hM, es⟩)⟩
    · replace h := qa_iff (q := 137) (qa_e rfl h) rfl (qa_F_gt c1)
      replace h := qa_iload (n := 7) (q := 139) (qa_e rfl h) rfl g7
      replace h := qa_iload (n := 8) (q := 141) (qa_e rfl h) rfl g8
      replace h := qa_imul (q := 142) (qa_e rfl h) rfl
      replace h := qa_iload (n := 6) (q := 144) (qa_e rfl h) rfl g6
      replace h := qa_iload (n := 7) (q := 146) (qa_e rfl h) rfl g7
      replace h := qa_isub (q := 147) (qa_e rfl h) rfl
      replace h := qa_iload (n := 3) (q := 148) (qa_e rfl h) rfl g3
      replace h := qa_imul (q := 149) (qa_e rfl h) rfl
      by_cases c2 : ((l6 - l7) * l3) < (l7 * s)
      · replace h := qa_iff (q := 152) (qa_e rfl h) rfl (qa_F_le c2)
        replace h := qa_iload (n := 8) (q := 154) (qa_e rfl h) rfl g8
        have er := qa_ri (qa_e rfl h)
        subst er
        have e0 : mc_220_99_p130 N l3 l6 l7 σ s = .inr (.inl s) := by exact Eq.trans (if_neg c1) (Eq.trans (if_pos c2) (rfl))
        rw [qa_whr e0]
        exact ⟨fun b hb => (by have e := Sum.inl.inj hb; subst e; exact ⟨rfl, hM, es⟩), fun b hb => nomatch hb⟩
      · replace h := qa_ift (q := 155) (qa_e rfl h) rfl (qa_T_le c2)
        obtain ⟨lv, h, g, T⟩ := qa_iinc (n := 8) (z := (1 : Int32)) (q := 158) (qa_e rfl h) rfl (by decide) g8
        replace g3 := T _ _ g3 (by decide) (Or.inr rfl)
        replace g6 := T _ _ g6 (by decide) (Or.inr rfl)
        replace g7 := T _ _ g7 (by decide) (Or.inr rfl)
        replace g8 := g
        clear g T
        replace h := qa_goto (q := 130) (qa_e rfl h) rfl
        have e0 : mc_220_99_p130 N l3 l6 l7 σ s = .inl (s + (1 : Int32)) := by exact Eq.trans (if_neg c1) (Eq.trans (if_neg c2) (rfl))
        rw [qa_whl e0]
        exact ih n hn (Nat.le_of_succ_le hF) (s + (1 : Int32)) _ _ hM es g3 g6 g7 g8 h
/-- BuriedBySevensModel, guess, (IIII)I -/
noncomputable def ma_220_99 (N : Nat) (a1 : Int32) (a2 : Int32) (a3 : Int32) (a4 : Int32) (σ : qa_S) : Int32 × qa_S :=
  qa_in (qa_u σ 99 9 (0 : Int32)) fun m1 =>
  if (ma_201 (if (ma_163_99 a1 m1) = (0 : Int32) then (-1 : Int32) else (if a2 < (1 : Int32) then (-4 : Int32) else (if a3 < (0 : Int32) then (-4 : Int32) else (if (99 : Int32) < a2 then (-6 : Int32) else (if (99 : Int32) < a3 then (-6 : Int32) else (0 : Int32)))))) a4 (1 : Int32)) < (0 : Int32) then
    qa_in ((ma_152_99 (ma_201 (if (ma_163_99 a1 m1) = (0 : Int32) then (-1 : Int32) else (if a2 < (1 : Int32) then (-4 : Int32) else (if a3 < (0 : Int32) then (-4 : Int32) else (if (99 : Int32) < a2 then (-6 : Int32) else (if (99 : Int32) < a3 then (-6 : Int32) else (0 : Int32)))))) a4 (1 : Int32)) m1)) fun r8 =>
    (r8.1, r8.2)
  else
    qa_in ((ma_193_99 N m1)) fun r9 =>
    qa_in ((ma_202_99 N (ma_190_99 r9.2) a1 r9.2)) fun r11 =>
    qa_in ((if r9.1 = (0 : Int32) then r9.2 else r11.2)) fun m12 =>
    if a4 = (0 : Int32) then
      ((if ((r9.1 - (if r9.1 = (0 : Int32) then (0 : Int32) else r11.1)) * a3) < ((if r9.1 = (0 : Int32) then (0 : Int32) else r11.1) * a2) then (1 : Int32) else (0 : Int32)), m12)
    else
      qa_in ((qa_wh (fun s => .inr s) (mc_220_99_p130 N a3 r9.1 (if r9.1 = (0 : Int32) then (0 : Int32) else r11.1) m12) N (1 : Int32))) fun r15 =>
      qa_cs r15
        (fun b16 =>
          (b16, m12))
        (fun b16 =>
          ((-9 : Int32), m12))
theorem mb_220_99 {f N : Nat} (hN : f ≤ N) {M : q4_M} {r : Option Value × q4_M} {σ : qa_S} {a1 : Int32} {a2 : Int32} {a3 : Int32} {a4 : Int32} (hM : qa_O M) (es : qa_s M = σ) (h : q4_run f 220 0 (lv_args 0 [.ref 99, .int (a1), .int (a2), .int (a3), .int (a4)]) [] M 0 0 = some r) : r.1 = some (.int ((ma_220_99 N a1 a2 a3 a4 σ).1)) ∧ qa_O r.2 ∧ qa_s r.2 = (ma_220_99 N a1 a2 a3 a4 σ).2 := by
  obtain ⟨lv, el⟩ : ∃ l, l = lv_args 0 [.ref 99, .int (a1), .int (a2), .int (a3), .int (a4)] := ⟨_, rfl⟩
  have g0 : q4_get lv 0 = some (.ref 99) := by rw [el]; rfl
  have g1 : q4_get lv 1 = some (.int (a1)) := by rw [el]; rfl
  have g2 : q4_get lv 2 = some (.int (a2)) := by rw [el]; rfl
  have g3 : q4_get lv 3 = some (.int (a3)) := by rw [el]; rfl
  have g4 : q4_get lv 4 = some (.int (a4)) := by rw [el]; rfl
  rw [← el] at h
  clear el
  replace h := qa_aload (n := 0) (q := 1) (qa_e rfl h) rfl g0
  replace h := qa_push (z := (0 : Int32)) (q := 2) (qa_e rfl h) rfl (by decide)
  obtain ⟨m1, em1⟩ : ∃ x, x = qa_u σ 99 9 (0 : Int32) := ⟨_, rfl⟩
  obtain ⟨M, h, hM, es⟩ := qa_pf (j := 9) (q := 5) (qa_e rfl h) rfl hM es rfl (by decide)
  rw [← em1] at es
  replace h := qa_push (z := (0 : Int32)) (q := 6) (qa_e rfl h) rfl (by decide)
  obtain ⟨lv, h, g, T⟩ := qa_istore (n := 5) (q := 8) (qa_e rfl h) rfl
  replace g0 := T _ _ g0 (by decide) (Or.inr rfl)
  replace g1 := T _ _ g1 (by decide) (Or.inr rfl)
  replace g2 := T _ _ g2 (by decide) (Or.inr rfl)
  replace g3 := T _ _ g3 (by decide) (Or.inr rfl)
  replace g4 := T _ _ g4 (by decide) (Or.inr rfl)
  have g5 := g
  clear g T
  replace h := qa_aload (n := 0) (q := 9) (qa_e rfl h) rfl g0
  replace h := qa_iload (n := 1) (q := 10) (qa_e rfl h) rfl g1
  obtain ⟨M, h, hM, es⟩ := qa_c1 (y := 163) (as := [.ref 99, .int (a1)]) (rest := []) (i := .invokevirtual 163) (q := 13) (qa_e rfl h) (Or.inl rfl) rfl rfl (by decide) rfl (fun r hc => mb_163_99 hM es hc)
  obtain ⟨lv, M, h, hM, es, g0, g1, g2, g3, g4, g5⟩ : ∃ lv M, q4_run f 220 54 lv [] M 0 0 = some r ∧ qa_O M ∧ qa_s M = m1 ∧ q4_get lv 0 = some (.ref 99) ∧ q4_get lv 1 = some (.int (a1)) ∧ q4_get lv 2 = some (.int (a2)) ∧ q4_get lv 3 = some (.int (a3)) ∧ q4_get lv 4 = some (.int (a4)) ∧ q4_get lv 5 = some (.int ((if (ma_163_99 a1 m1) = (0 : Int32) then (-1 : Int32) else (if a2 < (1 : Int32) then (-4 : Int32) else (if a3 < (0 : Int32) then (-4 : Int32) else (if (99 : Int32) < a2 then (-6 : Int32) else (if (99 : Int32) < a3 then (-6 : Int32) else (0 : Int32)))))))) := by
    by_cases c2 : (ma_163_99 a1 m1) = (0 : Int32)
    · replace h := qa_icf (q := 16) (qa_e rfl h) rfl (qa_F_ne c2)
      replace h := qa_push (z := (-1 : Int32)) (q := 17) (qa_e rfl h) rfl (by decide)
      obtain ⟨lv, h, g, T⟩ := qa_istore (n := 5) (q := 19) (qa_e rfl h) rfl
      replace g0 := T _ _ g0 (by decide) (Or.inr rfl)
      replace g1 := T _ _ g1 (by decide) (Or.inr rfl)
      replace g2 := T _ _ g2 (by decide) (Or.inr rfl)
      replace g3 := T _ _ g3 (by decide) (Or.inr rfl)
      replace g4 := T _ _ g4 (by decide) (Or.inr rfl)
      have g5 := g
      clear g T
      replace h := qa_goto (q := 54) (qa_e rfl h) rfl
      exact ⟨lv, M, h, hM, es, g0, g1, g2, g3, g4, (qa_gi1 c2 g5)⟩
    · replace h := qa_ict (q := 22) (qa_e rfl h) rfl (qa_T_ne c2)
      replace h := qa_iload (n := 2) (q := 23) (qa_e rfl h) rfl g2
      replace h := qa_push (z := (1 : Int32)) (q := 24) (qa_e rfl h) rfl (by decide)
      obtain ⟨lv, M, h, hM, es, g0, g1, g2, g3, g4, g5⟩ : ∃ lv M, q4_run f 220 54 lv [] M 0 0 = some r ∧ qa_O M ∧ qa_s M = m1 ∧ q4_get lv 0 = some (.ref 99) ∧ q4_get lv 1 = some (.int (a1)) ∧ q4_get lv 2 = some (.int (a2)) ∧ q4_get lv 3 = some (.int (a3)) ∧ q4_get lv 4 = some (.int (a4)) ∧ q4_get lv 5 = some (.int ((if a2 < (1 : Int32) then (-4 : Int32) else (if a3 < (0 : Int32) then (-4 : Int32) else (if (99 : Int32) < a2 then (-6 : Int32) else (if (99 : Int32) < a3 then (-6 : Int32) else (0 : Int32))))))) := by
        by_cases c3 : a2 < (1 : Int32)
        · replace h := qa_ift (q := 31) (qa_e rfl h) rfl (qa_T_lt c3)
          replace h := qa_push (z := (-4 : Int32)) (q := 33) (qa_e rfl h) rfl (by decide)
          obtain ⟨lv, h, g, T⟩ := qa_istore (n := 5) (q := 35) (qa_e rfl h) rfl
          replace g0 := T _ _ g0 (by decide) (Or.inr rfl)
          replace g1 := T _ _ g1 (by decide) (Or.inr rfl)
          replace g2 := T _ _ g2 (by decide) (Or.inr rfl)
          replace g3 := T _ _ g3 (by decide) (Or.inr rfl)
          replace g4 := T _ _ g4 (by decide) (Or.inr rfl)
          have g5 := g
          clear g T
          replace h := qa_goto (q := 54) (qa_e rfl h) rfl
          exact ⟨lv, M, h, hM, es, g0, g1, g2, g3, g4, (qa_gi1 c3 g5)⟩
        · replace h := qa_iff (q := 27) (qa_e rfl h) rfl (qa_F_lt c3)
          replace h := qa_iload (n := 3) (q := 28) (qa_e rfl h) rfl g3
          obtain ⟨lv, M, h, hM, es, g0, g1, g2, g3, g4, g5⟩ : ∃ lv M, q4_run f 220 54 lv [] M 0 0 = some r ∧ qa_O M ∧ qa_s M = m1 ∧ q4_get lv 0 = some (.ref 99) ∧ q4_get lv 1 = some (.int (a1)) ∧ q4_get lv 2 = some (.int (a2)) ∧ q4_get lv 3 = some (.int (a3)) ∧ q4_get lv 4 = some (.int (a4)) ∧ q4_get lv 5 = some (.int ((if a3 < (0 : Int32) then (-4 : Int32) else (if (99 : Int32) < a2 then (-6 : Int32) else (if (99 : Int32) < a3 then (-6 : Int32) else (0 : Int32)))))) := by
            by_cases c4 : a3 < (0 : Int32)
            · replace h := qa_icf (q := 31) (qa_e rfl h) rfl (qa_F_ge c4)
              replace h := qa_push (z := (-4 : Int32)) (q := 33) (qa_e rfl h) rfl (by decide)
              obtain ⟨lv, h, g, T⟩ := qa_istore (n := 5) (q := 35) (qa_e rfl h) rfl
              replace g0 := T _ _ g0 (by decide) (Or.inr rfl)
              replace g1 := T _ _ g1 (by decide) (Or.inr rfl)
              replace g2 := T _ _ g2 (by decide) (Or.inr rfl)
              replace g3 := T _ _ g3 (by decide) (Or.inr rfl)
              replace g4 := T _ _ g4 (by decide) (Or.inr rfl)
              have g5 := g
              clear g T
              replace h := qa_goto (q := 54) (qa_e rfl h) rfl
              exact ⟨lv, M, h, hM, es, g0, g1, g2, g3, g4, (qa_gi1 c4 g5)⟩
            · replace h := qa_ict (q := 38) (qa_e rfl h) rfl (qa_T_ge c4)
              replace h := qa_iload (n := 2) (q := 39) (qa_e rfl h) rfl g2
              replace h := qa_push (z := (99 : Int32)) (q := 41) (qa_e rfl h) rfl (by decide)
              obtain ⟨lv, M, h, hM, es, g0, g1, g2, g3, g4, g5⟩ : ∃ lv M, q4_run f 220 54 lv [] M 0 0 = some r ∧ qa_O M ∧ qa_s M = m1 ∧ q4_get lv 0 = some (.ref 99) ∧ q4_get lv 1 = some (.int (a1)) ∧ q4_get lv 2 = some (.int (a2)) ∧ q4_get lv 3 = some (.int (a3)) ∧ q4_get lv 4 = some (.int (a4)) ∧ q4_get lv 5 = some (.int ((if (99 : Int32) < a2 then (-6 : Int32) else (if (99 : Int32) < a3 then (-6 : Int32) else (0 : Int32))))) := by
                by_cases c5 : (99 : Int32) < a2
                · replace h := qa_ift (q := 50) (qa_e rfl h) rfl (qa_T_gt c5)
                  replace h := qa_push (z := (-6 : Int32)) (q := 52) (qa_e rfl h) rfl (by decide)
                  obtain ⟨lv, h, g, T⟩ := qa_istore (n := 5) (q := 54) (qa_e rfl h) rfl
                  replace g0 := T _ _ g0 (by decide) (Or.inr rfl)
                  replace g1 := T _ _ g1 (by decide) (Or.inr rfl)
                  replace g2 := T _ _ g2 (by decide) (Or.inr rfl)
                  replace g3 := T _ _ g3 (by decide) (Or.inr rfl)
                  replace g4 := T _ _ g4 (by decide) (Or.inr rfl)
                  have g5 := g
                  clear g T
                  exact ⟨lv, M, h, hM, es, g0, g1, g2, g3, g4, (qa_gi1 c5 g5)⟩
                · replace h := qa_iff (q := 44) (qa_e rfl h) rfl (qa_F_gt c5)
                  replace h := qa_iload (n := 3) (q := 45) (qa_e rfl h) rfl g3
                  replace h := qa_push (z := (99 : Int32)) (q := 47) (qa_e rfl h) rfl (by decide)
                  obtain ⟨lv, M, h, hM, es, g0, g1, g2, g3, g4, g5⟩ : ∃ lv M, q4_run f 220 54 lv [] M 0 0 = some r ∧ qa_O M ∧ qa_s M = m1 ∧ q4_get lv 0 = some (.ref 99) ∧ q4_get lv 1 = some (.int (a1)) ∧ q4_get lv 2 = some (.int (a2)) ∧ q4_get lv 3 = some (.int (a3)) ∧ q4_get lv 4 = some (.int (a4)) ∧ q4_get lv 5 = some (.int ((if (99 : Int32) < a3 then (-6 : Int32) else (0 : Int32)))) := by
                    by_cases c6 : (99 : Int32) < a3
                    · replace h := qa_iff (q := 50) (qa_e rfl h) rfl (qa_F_le c6)
                      replace h := qa_push (z := (-6 : Int32)) (q := 52) (qa_e rfl h) rfl (by decide)
                      obtain ⟨lv, h, g, T⟩ := qa_istore (n := 5) (q := 54) (qa_e rfl h) rfl
                      replace g0 := T _ _ g0 (by decide) (Or.inr rfl)
                      replace g1 := T _ _ g1 (by decide) (Or.inr rfl)
                      replace g2 := T _ _ g2 (by decide) (Or.inr rfl)
                      replace g3 := T _ _ g3 (by decide) (Or.inr rfl)
                      replace g4 := T _ _ g4 (by decide) (Or.inr rfl)
                      have g5 := g
                      clear g T
                      exact ⟨lv, M, h, hM, es, g0, g1, g2, g3, g4, (qa_gi1 c6 g5)⟩
                    · replace h := qa_ift (q := 54) (qa_e rfl h) rfl (qa_T_le c6)
                      exact ⟨lv, M, h, hM, es, g0, g1, g2, g3, g4, (qa_gi0 c6 g5)⟩
                  exact ⟨lv, M, h, hM, es, g0, g1, g2, g3, g4, (qa_gi0 c5 g5)⟩
              exact ⟨lv, M, h, hM, es, g0, g1, g2, g3, g4, (qa_gi0 c4 g5)⟩
          exact ⟨lv, M, h, hM, es, g0, g1, g2, g3, g4, (qa_gi0 c3 g5)⟩
      exact ⟨lv, M, h, hM, es, g0, g1, g2, g3, g4, (qa_gi0 c2 g5)⟩
  replace h := qa_iload (n := 5) (q := 56) (qa_e rfl h) rfl g5
  replace h := qa_iload (n := 4) (q := 58) (qa_e rfl h) rfl g4
  replace h := qa_push (z := (1 : Int32)) (q := 59) (qa_e rfl h) rfl (by decide)
  obtain ⟨M, h, hM, es⟩ := qa_c1 (y := 201) (as := [.int ((if (ma_163_99 a1 m1) = (0 : Int32) then (-1 : Int32) else (if a2 < (1 : Int32) then (-4 : Int32) else (if a3 < (0 : Int32) then (-4 : Int32) else (if (99 : Int32) < a2 then (-6 : Int32) else (if (99 : Int32) < a3 then (-6 : Int32) else (0 : Int32))))))), .int (a4), .int ((1 : Int32))]) (rest := []) (i := .invokestatic 201) (q := 62) (qa_e rfl h) (Or.inr rfl) rfl rfl (by decide) rfl (fun r hc => mb_201 hM es hc)
  obtain ⟨lv, h, g, T⟩ := qa_istore (n := 5) (q := 64) (qa_e rfl h) rfl
  replace g0 := T _ _ g0 (by decide) (Or.inr rfl)
  replace g1 := T _ _ g1 (by decide) (Or.inr rfl)
  replace g2 := T _ _ g2 (by decide) (Or.inr rfl)
  replace g3 := T _ _ g3 (by decide) (Or.inr rfl)
  replace g4 := T _ _ g4 (by decide) (Or.inr rfl)
  have g5 := g
  clear g T
  replace h := qa_iload (n := 5) (q := 66) (qa_e rfl h) rfl g5
  by_cases c7 : (ma_201 (if (ma_163_99 a1 m1) = (0 : Int32) then (-1 : Int32) else (if a2 < (1 : Int32) then (-4 : Int32) else (if a3 < (0 : Int32) then (-4 : Int32) else (if (99 : Int32) < a2 then (-6 : Int32) else (if (99 : Int32) < a3 then (-6 : Int32) else (0 : Int32)))))) a4 (1 : Int32)) < (0 : Int32)
  · replace h := qa_icf (q := 69) (qa_e rfl h) rfl (qa_F_ge c7)
    replace h := qa_aload (n := 0) (q := 70) (qa_e rfl h) rfl g0
    replace h := qa_iload (n := 5) (q := 72) (qa_e rfl h) rfl g5
    obtain ⟨r8, er8⟩ : ∃ x, x = (ma_152_99 (ma_201 (if (ma_163_99 a1 m1) = (0 : Int32) then (-1 : Int32) else (if a2 < (1 : Int32) then (-4 : Int32) else (if a3 < (0 : Int32) then (-4 : Int32) else (if (99 : Int32) < a2 then (-6 : Int32) else (if (99 : Int32) < a3 then (-6 : Int32) else (0 : Int32)))))) a4 (1 : Int32)) m1) := ⟨_, rfl⟩
    obtain ⟨M, h, hM, es⟩ := qa_c1 (y := 152) (as := [.ref 99, .int ((ma_201 (if (ma_163_99 a1 m1) = (0 : Int32) then (-1 : Int32) else (if a2 < (1 : Int32) then (-4 : Int32) else (if a3 < (0 : Int32) then (-4 : Int32) else (if (99 : Int32) < a2 then (-6 : Int32) else (if (99 : Int32) < a3 then (-6 : Int32) else (0 : Int32)))))) a4 (1 : Int32)))]) (rest := []) (i := .invokevirtual 152) (q := 75) (qa_e rfl h) (Or.inl rfl) rfl rfl (by decide) rfl (fun r hc => mb_152_99 hM es hc)
    rw [← er8] at h es
    have er := qa_ri (qa_e rfl h)
    subst er
    have e0 : ma_220_99 N a1 a2 a3 a4 σ = (r8.1, r8.2) := by exact Eq.trans (qa_ie em1) (Eq.trans (if_pos c7) (Eq.trans (qa_ie er8) (rfl)))
    rw [e0]
    exact ⟨rfl, hM, es⟩
  · replace h := qa_ict (q := 76) (qa_e rfl h) rfl (qa_T_ge c7)
    replace h := qa_aload (n := 0) (q := 77) (qa_e rfl h) rfl g0
    obtain ⟨r9, er9⟩ : ∃ x, x = (ma_193_99 N m1) := ⟨_, rfl⟩
    obtain ⟨M, h, hM, es⟩ := qa_c1 (y := 193) (as := [.ref 99]) (rest := []) (i := .invokevirtual 193) (q := 80) (qa_e rfl h) (Or.inl rfl) rfl rfl (by decide) rfl (fun r hc => mb_193_99 hN hM es hc)
    rw [← er9] at h es
    obtain ⟨lv, h, g, T⟩ := qa_istore (n := 6) (q := 82) (qa_e rfl h) rfl
    replace g0 := T _ _ g0 (by decide) (Or.inr rfl)
    replace g1 := T _ _ g1 (by decide) (Or.inr rfl)
    replace g2 := T _ _ g2 (by decide) (Or.inr rfl)
    replace g3 := T _ _ g3 (by decide) (Or.inr rfl)
    replace g4 := T _ _ g4 (by decide) (Or.inr rfl)
    have g6 := g
    clear g T
    replace h := qa_iload (n := 6) (q := 84) (qa_e rfl h) rfl g6
    obtain ⟨r11, er11⟩ : ∃ x, x = (ma_202_99 N (ma_190_99 r9.2) a1 r9.2) := ⟨_, rfl⟩
    obtain ⟨m12, em12⟩ : ∃ x, x = (if r9.1 = (0 : Int32) then r9.2 else r11.2) := ⟨_, rfl⟩
    obtain ⟨lv, M, h, hM, es, g2, g3, g4, g6⟩ : ∃ lv M, q4_run f 220 100 lv [.int ((if r9.1 = (0 : Int32) then (0 : Int32) else r11.1))] M 0 0 = some r ∧ qa_O M ∧ qa_s M = m12 ∧ q4_get lv 2 = some (.int (a2)) ∧ q4_get lv 3 = some (.int (a3)) ∧ q4_get lv 4 = some (.int (a4)) ∧ q4_get lv 6 = some (.int (r9.1)) := by
      by_cases c10 : r9.1 = (0 : Int32)
      · replace h := qa_icf (q := 87) (qa_e rfl h) rfl (qa_F_ne c10)
        replace h := qa_push (z := (0 : Int32)) (q := 88) (qa_e rfl h) rfl (by decide)
        replace h := qa_goto (q := 100) (qa_e rfl h) rfl
        exact ⟨lv, M, (qa_hi1 c10 h), hM, ((qa_ms1 c10 es).trans em12.symm), g2, g3, g4, g6⟩
      · replace h := qa_ict (q := 91) (qa_e rfl h) rfl (qa_T_ne c10)
        replace h := qa_aload (n := 0) (q := 92) (qa_e rfl h) rfl g0
        replace h := qa_aload (n := 0) (q := 93) (qa_e rfl h) rfl g0
        obtain ⟨M, h, hM, es⟩ := qa_c1 (y := 190) (as := [.ref 99]) (rest := [.ref 99]) (i := .invokevirtual 190) (q := 96) (qa_e rfl h) (Or.inl rfl) rfl rfl (by decide) rfl (fun r hc => mb_190_99 hM es hc)
        replace h := qa_iload (n := 1) (q := 97) (qa_e rfl h) rfl g1
        obtain ⟨M, h, hM, es⟩ := qa_c1 (y := 202) (as := [.ref 99, .int ((ma_190_99 r9.2)), .int (a1)]) (rest := []) (i := .invokevirtual 202) (q := 100) (qa_e rfl h) (Or.inl rfl) rfl rfl (by decide) rfl (fun r hc => mb_202_99 hN hM es hc)
        rw [← er11] at h es
        exact ⟨lv, M, (qa_hi0 c10 h), hM, ((qa_ms0 c10 es).trans em12.symm), g2, g3, g4, g6⟩
    obtain ⟨lv, h, g, T⟩ := qa_istore (n := 7) (q := 102) (qa_e rfl h) rfl
    replace g2 := T _ _ g2 (by decide) (Or.inr rfl)
    replace g3 := T _ _ g3 (by decide) (Or.inr rfl)
    replace g4 := T _ _ g4 (by decide) (Or.inr rfl)
    replace g6 := T _ _ g6 (by decide) (Or.inr rfl)
    have g7 := g
    clear g T
    replace h := qa_iload (n := 4) (q := 104) (qa_e rfl h) rfl g4
    by_cases c13 : a4 = (0 : Int32)
    · replace h := qa_icf (q := 107) (qa_e rfl h) rfl (qa_F_ne c13)
      replace h := qa_iload (n := 7) (q := 109) (qa_e rfl h) rfl g7
      replace h := qa_iload (n := 2) (q := 110) (qa_e rfl h) rfl g2
      replace h := qa_imul (q := 111) (qa_e rfl h) rfl
      replace h := qa_iload (n := 6) (q := 113) (qa_e rfl h) rfl g6
      replace h := qa_iload (n := 7) (q := 115) (qa_e rfl h) rfl g7
      replace h := qa_isub (q := 116) (qa_e rfl h) rfl
      replace h := qa_iload (n := 3) (q := 117) (qa_e rfl h) rfl g3
      replace h := qa_imul (q := 118) (qa_e rfl h) rfl
      obtain ⟨lv, M, h, hM, es⟩ : ∃ lv M, q4_run f 220 126 lv [.int ((if ((r9.1 - (if r9.1 = (0 : Int32) then (0 : Int32) else r11.1)) * a3) < ((if r9.1 = (0 : Int32) then (0 : Int32) else r11.1) * a2) then (1 : Int32) else (0 : Int32)))] M 0 0 = some r ∧ qa_O M ∧ qa_s M = m12 := by
        by_cases c14 : ((r9.1 - (if r9.1 = (0 : Int32) then (0 : Int32) else r11.1)) * a3) < ((if r9.1 = (0 : Int32) then (0 : Int32) else r11.1) * a2)
        · replace h := qa_iff (q := 121) (qa_e rfl h) rfl (qa_F_le c14)
          replace h := qa_push (z := (1 : Int32)) (q := 122) (qa_e rfl h) rfl (by decide)
          replace h := qa_goto (q := 126) (qa_e rfl h) rfl
          exact ⟨lv, M, (qa_hi1 c14 h), hM, es⟩
        · replace h := qa_ift (q := 125) (qa_e rfl h) rfl (qa_T_le c14)
          replace h := qa_push (z := (0 : Int32)) (q := 126) (qa_e rfl h) rfl (by decide)
          exact ⟨lv, M, (qa_hi0 c14 h), hM, es⟩
      have er := qa_ri (qa_e rfl h)
      subst er
      have e0 : ma_220_99 N a1 a2 a3 a4 σ = ((if ((r9.1 - (if r9.1 = (0 : Int32) then (0 : Int32) else r11.1)) * a3) < ((if r9.1 = (0 : Int32) then (0 : Int32) else r11.1) * a2) then (1 : Int32) else (0 : Int32)), m12) := by exact Eq.trans (qa_ie em1) (Eq.trans (if_neg c7) (Eq.trans (qa_ie er9) (Eq.trans (qa_ie er11) (Eq.trans (qa_ie em12) (Eq.trans (if_pos c13) (rfl))))))
      rw [e0]
      exact ⟨rfl, hM, es⟩
    · replace h := qa_ict (q := 127) (qa_e rfl h) rfl (qa_T_ne c13)
      replace h := qa_push (z := (1 : Int32)) (q := 128) (qa_e rfl h) rfl (by decide)
      obtain ⟨lv, h, g, T⟩ := qa_istore (n := 8) (q := 130) (qa_e rfl h) rfl
      replace g3 := T _ _ g3 (by decide) (Or.inr rfl)
      replace g6 := T _ _ g6 (by decide) (Or.inr rfl)
      replace g7 := T _ _ g7 (by decide) (Or.inr rfl)
      have g8 := g
      clear g T
      obtain ⟨r15, er15⟩ : ∃ x, x = (qa_wh (fun s => .inr s) (mc_220_99_p130 N a3 r9.1 (if r9.1 = (0 : Int32) then (0 : Int32) else r11.1) m12) N (1 : Int32)) := ⟨_, rfl⟩
      have L := md_220_99_p130 (l3 := a3) (l6 := r9.1) (l7 := (if r9.1 = (0 : Int32) then (0 : Int32) else r11.1)) (σ := m12) (F := f) (N := N) (r := r) hN f N hN (Nat.le_refl f) (1 : Int32) _ _ hM es g3 g6 g7 g8 h
      rw [← er15] at L
      rcases qr15 : r15 with b16 | b16
      · obtain ⟨h, hM, es⟩ := L.1 b16 qr15
        have e0 : ma_220_99 N a1 a2 a3 a4 σ = (b16, m12) := by exact Eq.trans (qa_ie em1) (Eq.trans (if_neg c7) (Eq.trans (qa_ie er9) (Eq.trans (qa_ie er11) (Eq.trans (qa_ie em12) (Eq.trans (if_neg c13) (Eq.trans (qa_ie er15) (Eq.trans (qa_csl qr15 _ _) (rfl))))))))
        rw [e0]
        exact ⟨h, hM, es⟩
      · obtain ⟨lv, M, h, hM, es⟩ := L.2 b16 qr15
        replace h := qa_push (z := (-9 : Int32)) (q := 163) (qa_e rfl h) rfl (by decide)
        have er := qa_ri (qa_e rfl h)
        subst er
        have e0 : ma_220_99 N a1 a2 a3 a4 σ = ((-9 : Int32), m12) := by exact Eq.trans (qa_ie em1) (Eq.trans (if_neg c7) (Eq.trans (qa_ie er9) (Eq.trans (qa_ie er11) (Eq.trans (qa_ie em12) (Eq.trans (if_neg c13) (Eq.trans (qa_ie er15) (Eq.trans (qa_csr qr15 _ _) (rfl))))))))
        rw [e0]
        exact ⟨rfl, hM, es⟩
noncomputable def mc_221_99_p69 (N : Nat) (l1 : Int32) (l2 : Int32) (σ : qa_S) (s : Int32 × Int32) : (Int32 × Int32) ⊕ (Int32 × Int32) :=
  if s.1 < (σ 99 0) then
    .inl ((s.1 + (1 : Int32)), (s.2 ||| (if (0 : Int32) < (σ 103 s.1.toNatClampNeg) then ((1 : Int32) <<< (s.1 &&& 31)) else (0 : Int32))))
  else
    .inr (s.1, s.2)
theorem md_221_99_p69 {N F : Nat} {r : Option Value × q4_M} {l1 : Int32} {l2 : Int32} {σ : qa_S} (hN : F ≤ N) : ∀ f n, f ≤ n → f ≤ F → ∀ (s : Int32 × Int32) (lv : List (Nat × Value)) (M : q4_M), qa_O M → qa_s M = σ → q4_get lv 0 = some (.ref 99) → q4_get lv 1 = some (.int (l1)) → q4_get lv 2 = some (.int (l2)) → q4_get lv 4 = some (.int (s.2)) → q4_get lv 5 = some (.int (s.1)) → q4_run f 221 69 lv [] M 0 0 = some r → ∃ lv M, q4_run F 221 107 lv [] M 0 0 = some r ∧ qa_O M ∧ qa_s M = σ ∧ q4_get lv 0 = some (.ref 99) ∧ q4_get lv 1 = some (.int (l1)) ∧ q4_get lv 2 = some (.int (l2)) ∧ q4_get lv 4 = some (.int ((qa_wh (fun s => s) (mc_221_99_p69 N l1 l2 σ) n s).2)) := by
  intro f
  induction f with
  | zero => intro n _ _ s lv M hM es _ _ _ _ _ h; cases h
  | succ f ih =>
    intro n hn hF s lv M hM es g0 g1 g2 g4 g5 h
    obtain ⟨n, rfl⟩ : ∃ n1, n = n1 + 1 := ⟨n - 1, by omega⟩
    replace hn : f ≤ n := Nat.le_of_succ_le_succ hn
    have hN := Nat.le_trans (Nat.le_of_succ_le hF) hN
    replace h := qa_iload (n := 5) (q := 71) (qa_d rfl h) rfl g5
    replace h := qa_aload (n := 0) (q := 72) (qa_e rfl h) rfl g0
    replace h := qa_gi (j := 0) (q := 75) (qa_e rfl h) rfl hM es rfl (by decide)
    by_cases c1 : s.1 < (σ 99 0)
    · replace h := qa_iff (q := 78) (qa_e rfl h) rfl (qa_F_ge c1)
      replace h := qa_iload (n := 4) (q := 80) (qa_e rfl h) rfl g4
      replace h := qa_aload (n := 0) (q := 81) (qa_e rfl h) rfl g0
      replace h := qa_gr (b := 103) (j := 4) (q := 84) (qa_e rfl h) rfl hM rfl (by decide)
      replace h := qa_iload (n := 5) (q := 86) (qa_e rfl h) rfl g5
      replace h := qa_iaload (jn := s.1.toNatClampNeg) (q := 87) (qa_e rfl h) rfl hM es rfl
      obtain ⟨lv, M, h, hM, es, g0, g1, g2, g5⟩ : ∃ lv M, q4_run f 221 98 lv [.int ((if (0 : Int32) < (σ 103 s.1.toNatClampNeg) then ((1 : Int32) <<< (s.1 &&& 31)) else (0 : Int32))), .int (s.2)] M 0 0 = some r ∧ qa_O M ∧ qa_s M = σ ∧ q4_get lv 0 = some (.ref 99) ∧ q4_get lv 1 = some (.int (l1)) ∧ q4_get lv 2 = some (.int (l2)) ∧ q4_get lv 5 = some (.int (s.1)) := by
        by_cases c2 : (0 : Int32) < (σ 103 s.1.toNatClampNeg)
        · replace h := qa_icf (q := 90) (qa_e rfl h) rfl (qa_F_le c2)
          replace h := qa_push (z := (1 : Int32)) (q := 91) (qa_e rfl h) rfl (by decide)
          replace h := qa_iload (n := 5) (q := 93) (qa_e rfl h) rfl g5
          replace h := qa_ishl (q := 94) (qa_e rfl h) rfl
          replace h := qa_goto (q := 98) (qa_e rfl h) rfl
          exact ⟨lv, M, (qa_hi1 c2 h), hM, es, g0, g1, g2, g5⟩
        · replace h := qa_ict (q := 97) (qa_e rfl h) rfl (qa_T_le c2)
          replace h := qa_push (z := (0 : Int32)) (q := 98) (qa_e rfl h) rfl (by decide)
          exact ⟨lv, M, (qa_hi0 c2 h), hM, es, g0, g1, g2, g5⟩
      replace h := qa_ior (q := 99) (qa_e rfl h) rfl
      obtain ⟨lv, h, g, T⟩ := qa_istore (n := 4) (q := 101) (qa_e rfl h) rfl
      replace g0 := T _ _ g0 (by decide) (Or.inr rfl)
      replace g1 := T _ _ g1 (by decide) (Or.inr rfl)
      replace g2 := T _ _ g2 (by decide) (Or.inr rfl)
      replace g5 := T _ _ g5 (by decide) (Or.inr rfl)
      have g4 := g
      clear g T
      obtain ⟨lv, h, g, T⟩ := qa_iinc (n := 5) (z := (1 : Int32)) (q := 104) (qa_e rfl h) rfl (by decide) g5
      replace g0 := T _ _ g0 (by decide) (Or.inr rfl)
      replace g1 := T _ _ g1 (by decide) (Or.inr rfl)
      replace g2 := T _ _ g2 (by decide) (Or.inr rfl)
      replace g4 := T _ _ g4 (by decide) (Or.inr rfl)
      replace g5 := g
      clear g T
      replace h := qa_goto (q := 69) (qa_e rfl h) rfl
      have e0 : mc_221_99_p69 N l1 l2 σ s = .inl ((s.1 + (1 : Int32)), (s.2 ||| (if (0 : Int32) < (σ 103 s.1.toNatClampNeg) then ((1 : Int32) <<< (s.1 &&& 31)) else (0 : Int32)))) := by exact Eq.trans (if_pos c1) (rfl)
      rw [qa_whl e0]
      exact ih n hn (Nat.le_of_succ_le hF) ((s.1 + (1 : Int32)), (s.2 ||| (if (0 : Int32) < (σ 103 s.1.toNatClampNeg) then ((1 : Int32) <<< (s.1 &&& 31)) else (0 : Int32)))) _ _ hM es g0 g1 g2 g4 g5 h
    · replace h := qa_ift (q := 107) (qa_e rfl h) rfl (qa_T_ge c1)
      have e0 : mc_221_99_p69 N l1 l2 σ s = .inr (s.1, s.2) := by exact Eq.trans (if_neg c1) (rfl)
      rw [qa_whr e0]
      exact ⟨_, _, q61_mono f F _ _ _ _ _ _ _ _ (Nat.le_of_succ_le hF) h, hM, es, g0, g1, g2, g4⟩
noncomputable def mc_222_99_p2 (N : Nat) (l1 : Int32) (s : Int32 × qa_S) : (Int32 × qa_S) ⊕ (Int32 × qa_S) :=
  if s.1 < (s.2 99 0) then
    qa_in (qa_u s.2 110 s.1.toNatClampNeg (if (ma_185 l1 s.1) = (0 : Int32) then (0 : Int32) else (s.2 103 s.1.toNatClampNeg))) fun m3 =>
    .inl ((s.1 + (1 : Int32)), m3)
  else
    .inr (s.1, s.2)
theorem md_222_99_p2 {N F : Nat} {r : Option Value × q4_M} {l1 : Int32} (hN : F ≤ N) : ∀ f n, f ≤ n → f ≤ F → ∀ (s : Int32 × qa_S) (lv : List (Nat × Value)) (M : q4_M), qa_O M → qa_s M = s.2 → q4_get lv 0 = some (.ref 99) → q4_get lv 1 = some (.int (l1)) → q4_get lv 2 = some (.int (s.1)) → q4_run f 222 2 lv [] M 0 0 = some r → ∃ lv M, q4_run F 222 40 lv [] M 0 0 = some r ∧ qa_O M ∧ qa_s M = (qa_wh (fun s => s) (mc_222_99_p2 N l1) n s).2 ∧ q4_get lv 0 = some (.ref 99) := by
  intro f
  induction f with
  | zero => intro n _ _ s lv M hM es _ _ _ h; cases h
  | succ f ih =>
    intro n hn hF s lv M hM es g0 g1 g2 h
    obtain ⟨n, rfl⟩ : ∃ n1, n = n1 + 1 := ⟨n - 1, by omega⟩
    replace hn : f ≤ n := Nat.le_of_succ_le_succ hn
    have hN := Nat.le_trans (Nat.le_of_succ_le hF) hN
    replace h := qa_iload (n := 2) (q := 3) (qa_d rfl h) rfl g2
    replace h := qa_aload (n := 0) (q := 4) (qa_e rfl h) rfl g0
    replace h := qa_gi (j := 0) (q := 7) (qa_e rfl h) rfl hM es rfl (by decide)
    by_cases c1 : s.1 < (s.2 99 0)
    · replace h := qa_iff (q := 10) (qa_e rfl h) rfl (qa_F_ge c1)
      replace h := qa_aload (n := 0) (q := 11) (qa_e rfl h) rfl g0
      replace h := qa_gr (b := 110) (j := 13) (q := 14) (qa_e rfl h) rfl hM rfl (by decide)
      replace h := qa_iload (n := 2) (q := 15) (qa_e rfl h) rfl g2
      replace h := qa_iload (n := 1) (q := 16) (qa_e rfl h) rfl g1
      replace h := qa_iload (n := 2) (q := 17) (qa_e rfl h) rfl g2
      obtain ⟨M, h, hM, es⟩ := qa_c1 (y := 185) (as := [.int (l1), .int (s.1)]) (rest := [.int (s.1), .ref 110]) (i := .invokestatic 185) (q := 20) (qa_e rfl h) (Or.inr rfl) rfl rfl (by decide) rfl (fun r hc => mb_185 hM es hc)
      obtain ⟨lv, M, h, hM, es, g0, g1, g2⟩ : ∃ lv M, q4_run f 222 33 lv [.int ((if (ma_185 l1 s.1) = (0 : Int32) then (0 : Int32) else (s.2 103 s.1.toNatClampNeg))), .int (s.1), .ref 110] M 0 0 = some r ∧ qa_O M ∧ qa_s M = s.2 ∧ q4_get lv 0 = some (.ref 99) ∧ q4_get lv 1 = some (.int (l1)) ∧ q4_get lv 2 = some (.int (s.1)) := by
        by_cases c2 : (ma_185 l1 s.1) = (0 : Int32)
        · replace h := qa_ict (q := 32) (qa_e rfl h) rfl (qa_T_eq c2)
          replace h := qa_push (z := (0 : Int32)) (q := 33) (qa_e rfl h) rfl (by decide)
          exact ⟨lv, M, (qa_hi1 c2 h), hM, es, g0, g1, g2⟩
        · replace h := qa_icf (q := 23) (qa_e rfl h) rfl (qa_F_eq c2)
          replace h := qa_aload (n := 0) (q := 24) (qa_e rfl h) rfl g0
          replace h := qa_gr (b := 103) (j := 4) (q := 27) (qa_e rfl h) rfl hM rfl (by decide)
          replace h := qa_iload (n := 2) (q := 28) (qa_e rfl h) rfl g2
          replace h := qa_iaload (jn := s.1.toNatClampNeg) (q := 29) (qa_e rfl h) rfl hM es rfl
          replace h := qa_goto (q := 33) (qa_e rfl h) rfl
          exact ⟨lv, M, (qa_hi0 c2 h), hM, es, g0, g1, g2⟩
      obtain ⟨m3, em3⟩ : ∃ x, x = qa_u s.2 110 s.1.toNatClampNeg (if (ma_185 l1 s.1) = (0 : Int32) then (0 : Int32) else (s.2 103 s.1.toNatClampNeg)) := ⟨_, rfl⟩
      obtain ⟨M, h, hM, es⟩ := qa_iastore (jn := s.1.toNatClampNeg) (q := 34) (qa_e rfl h) rfl hM es rfl
      rw [← em3] at es
      obtain ⟨lv, h, g, T⟩ := qa_iinc (n := 2) (z := (1 : Int32)) (q := 37) (qa_e rfl h) rfl (by decide) g2
      replace g0 := T _ _ g0 (by decide) (Or.inr rfl)
      replace g1 := T _ _ g1 (by decide) (Or.inr rfl)
      replace g2 := g
      clear g T
      replace h := qa_goto (q := 2) (qa_e rfl h) rfl
      have e0 : mc_222_99_p2 N l1 s = .inl ((s.1 + (1 : Int32)), m3) := by exact Eq.trans (if_pos c1) (Eq.trans (qa_ie em3) (rfl))
      rw [qa_whl e0]
      exact ih n hn (Nat.le_of_succ_le hF) ((s.1 + (1 : Int32)), m3) _ _ hM es g0 g1 g2 h
    · replace h := qa_ift (q := 40) (qa_e rfl h) rfl (qa_T_ge c1)
      have e0 : mc_222_99_p2 N l1 s = .inr (s.1, s.2) := by exact Eq.trans (if_neg c1) (rfl)
      rw [qa_whr e0]
      exact ⟨_, _, q61_mono f F _ _ _ _ _ _ _ _ (Nat.le_of_succ_le hF) h, hM, es, g0⟩
noncomputable def mc_222_99_p62 (N : Nat) (l2 : Int32) (l3 : Int32) (σ : qa_S) (s : Int32 × Int32) : (Int32 × Int32) ⊕ (Int32 × Int32) :=
  if s.1 < (4 : Int32) then
    .inl ((s.1 + (1 : Int32)), (if s.2 = (0 : Int32) then (if (ma_185 (σ 104 l3.toNatClampNeg) s.1) = (0 : Int32) then (0 : Int32) else (if (ma_186_99 l3 (σ 111 s.1.toNatClampNeg) σ) = (0 : Int32) then (0 : Int32) else (1 : Int32))) else (1 : Int32)))
  else
    .inr (s.1, s.2)
theorem md_222_99_p62 {N F : Nat} {r : Option Value × q4_M} {l2 : Int32} {l3 : Int32} {σ : qa_S} (hN : F ≤ N) : ∀ f n, f ≤ n → f ≤ F → ∀ (s : Int32 × Int32) (lv : List (Nat × Value)) (M : q4_M), qa_O M → qa_s M = σ → q4_get lv 0 = some (.ref 99) → q4_get lv 2 = some (.int (l2)) → q4_get lv 3 = some (.int (l3)) → q4_get lv 4 = some (.int (s.2)) → q4_get lv 5 = some (.int (s.1)) → q4_run f 222 62 lv [] M 0 0 = some r → ∃ lv M, q4_run F 222 115 lv [] M 0 0 = some r ∧ qa_O M ∧ qa_s M = σ ∧ q4_get lv 0 = some (.ref 99) ∧ q4_get lv 2 = some (.int (l2)) ∧ q4_get lv 3 = some (.int (l3)) ∧ q4_get lv 4 = some (.int ((qa_wh (fun s => s) (mc_222_99_p62 N l2 l3 σ) n s).2)) := by
  intro f
  induction f with
  | zero => intro n _ _ s lv M hM es _ _ _ _ _ h; cases h
  | succ f ih =>
    intro n hn hF s lv M hM es g0 g2 g3 g4 g5 h
    obtain ⟨n, rfl⟩ : ∃ n1, n = n1 + 1 := ⟨n - 1, by omega⟩
    replace hn : f ≤ n := Nat.le_of_succ_le_succ hn
    have hN := Nat.le_trans (Nat.le_of_succ_le hF) hN
    replace h := qa_iload (n := 5) (q := 64) (qa_d rfl h) rfl g5
    replace h := qa_push (z := (4 : Int32)) (q := 65) (qa_e rfl h) rfl (by decide)
    by_cases c1 : s.1 < (4 : Int32)
    · replace h := qa_iff (q := 68) (qa_e rfl h) rfl (qa_F_ge c1)
      replace h := qa_iload (n := 4) (q := 70) (qa_e rfl h) rfl g4
      obtain ⟨lv, M, h, hM, es, g0, g2, g3, g5⟩ : ∃ lv M, q4_run f 222 107 lv [.int ((if s.2 = (0 : Int32) then (if (ma_185 (σ 104 l3.toNatClampNeg) s.1) = (0 : Int32) then (0 : Int32) else (if (ma_186_99 l3 (σ 111 s.1.toNatClampNeg) σ) = (0 : Int32) then (0 : Int32) else (1 : Int32))) else (1 : Int32)))] M 0 0 = some r ∧ qa_O M ∧ qa_s M = σ ∧ q4_get lv 0 = some (.ref 99) ∧ q4_get lv 2 = some (.int (l2)) ∧ q4_get lv 3 = some (.int (l3)) ∧ q4_get lv 5 = some (.int (s.1)) := by
        by_cases c2 : s.2 = (0 : Int32)
        · replace h := qa_icf (q := 73) (qa_e rfl h) rfl (qa_F_ne c2)
          replace h := qa_aload (n := 0) (q := 74) (qa_e rfl h) rfl g0
          replace h := qa_gr (b := 104) (j := 6) (q := 77) (qa_e rfl h) rfl hM rfl (by decide)
          replace h := qa_iload (n := 3) (q := 78) (qa_e rfl h) rfl g3
          replace h := qa_iaload (jn := l3.toNatClampNeg) (q := 79) (qa_e rfl h) rfl hM es rfl
          replace h := qa_iload (n := 5) (q := 81) (qa_e rfl h) rfl g5
          obtain ⟨M, h, hM, es⟩ := qa_c1 (y := 185) (as := [.int ((σ 104 l3.toNatClampNeg)), .int (s.1)]) (rest := []) (i := .invokestatic 185) (q := 84) (qa_e rfl h) (Or.inr rfl) rfl rfl (by decide) rfl (fun r hc => mb_185 hM es hc)
          obtain ⟨lv, M, h, hM, es, g0, g2, g3, g5⟩ : ∃ lv M, q4_run f 222 107 lv [.int ((if (ma_185 (σ 104 l3.toNatClampNeg) s.1) = (0 : Int32) then (0 : Int32) else (if (ma_186_99 l3 (σ 111 s.1.toNatClampNeg) σ) = (0 : Int32) then (0 : Int32) else (1 : Int32))))] M 0 0 = some r ∧ qa_O M ∧ qa_s M = σ ∧ q4_get lv 0 = some (.ref 99) ∧ q4_get lv 2 = some (.int (l2)) ∧ q4_get lv 3 = some (.int (l3)) ∧ q4_get lv 5 = some (.int (s.1)) := by
            by_cases c3 : (ma_185 (σ 104 l3.toNatClampNeg) s.1) = (0 : Int32)
            · replace h := qa_ict (q := 106) (qa_e rfl h) rfl (qa_T_eq c3)
              replace h := qa_push (z := (0 : Int32)) (q := 107) (qa_e rfl h) rfl (by decide)
              exact ⟨lv, M, (qa_hi1 c3 h), hM, es, g0, g2, g3, g5⟩
            · replace h := qa_icf (q := 87) (qa_e rfl h) rfl (qa_F_eq c3)
              replace h := qa_aload (n := 0) (q := 88) (qa_e rfl h) rfl g0
              replace h := qa_iload (n := 3) (q := 89) (qa_e rfl h) rfl g3
              replace h := qa_aload (n := 0) (q := 90) (qa_e rfl h) rfl g0
              replace h := qa_gr (b := 111) (j := 14) (q := 93) (qa_e rfl h) rfl hM rfl (by decide)
              replace h := qa_iload (n := 5) (q := 95) (qa_e rfl h) rfl g5
              replace h := qa_iaload (jn := s.1.toNatClampNeg) (q := 96) (qa_e rfl h) rfl hM es rfl
              obtain ⟨M, h, hM, es⟩ := qa_c1 (y := 186) (as := [.ref 99, .int (l3), .int ((σ 111 s.1.toNatClampNeg))]) (rest := []) (i := .invokevirtual 186) (q := 99) (qa_e rfl h) (Or.inl rfl) rfl rfl (by decide) rfl (fun r hc => mb_186_99 hM es hc)
              obtain ⟨lv, M, h, hM, es, g0, g2, g3, g5⟩ : ∃ lv M, q4_run f 222 107 lv [.int ((if (ma_186_99 l3 (σ 111 s.1.toNatClampNeg) σ) = (0 : Int32) then (0 : Int32) else (1 : Int32)))] M 0 0 = some r ∧ qa_O M ∧ qa_s M = σ ∧ q4_get lv 0 = some (.ref 99) ∧ q4_get lv 2 = some (.int (l2)) ∧ q4_get lv 3 = some (.int (l3)) ∧ q4_get lv 5 = some (.int (s.1)) := by
                by_cases c4 : (ma_186_99 l3 (σ 111 s.1.toNatClampNeg) σ) = (0 : Int32)
                · replace h := qa_ict (q := 106) (qa_e rfl h) rfl (qa_T_eq c4)
                  replace h := qa_push (z := (0 : Int32)) (q := 107) (qa_e rfl h) rfl (by decide)
                  exact ⟨lv, M, (qa_hi1 c4 h), hM, es, g0, g2, g3, g5⟩
                · replace h := qa_icf (q := 102) (qa_e rfl h) rfl (qa_F_eq c4)
                  replace h := qa_push (z := (1 : Int32)) (q := 103) (qa_e rfl h) rfl (by decide)
                  replace h := qa_goto (q := 107) (qa_e rfl h) rfl
                  exact ⟨lv, M, (qa_hi0 c4 h), hM, es, g0, g2, g3, g5⟩
              exact ⟨lv, M, (qa_hi0 c3 h), hM, es, g0, g2, g3, g5⟩
          exact ⟨lv, M, (qa_hi1 c2 h), hM, es, g0, g2, g3, g5⟩
        · replace h := qa_ict (q := 102) (qa_e rfl h) rfl (qa_T_ne c2)
          replace h := qa_push (z := (1 : Int32)) (q := 103) (qa_e rfl h) rfl (by decide)
          replace h := qa_goto (q := 107) (qa_e rfl h) rfl
          exact ⟨lv, M, (qa_hi0 c2 h), hM, es, g0, g2, g3, g5⟩
      obtain ⟨lv, h, g, T⟩ := qa_istore (n := 4) (q := 109) (qa_e rfl h) rfl
      replace g0 := T _ _ g0 (by decide) (Or.inr rfl)
      replace g2 := T _ _ g2 (by decide) (Or.inr rfl)
      replace g3 := T _ _ g3 (by decide) (Or.inr rfl)
      replace g5 := T _ _ g5 (by decide) (Or.inr rfl)
      have g4 := g
      clear g T
      obtain ⟨lv, h, g, T⟩ := qa_iinc (n := 5) (z := (1 : Int32)) (q := 112) (qa_e rfl h) rfl (by decide) g5
      replace g0 := T _ _ g0 (by decide) (Or.inr rfl)
      replace g2 := T _ _ g2 (by decide) (Or.inr rfl)
      replace g3 := T _ _ g3 (by decide) (Or.inr rfl)
      replace g4 := T _ _ g4 (by decide) (Or.inr rfl)
      replace g5 := g
      clear g T
      replace h := qa_goto (q := 62) (qa_e rfl h) rfl
      have e0 : mc_222_99_p62 N l2 l3 σ s = .inl ((s.1 + (1 : Int32)), (if s.2 = (0 : Int32) then (if (ma_185 (σ 104 l3.toNatClampNeg) s.1) = (0 : Int32) then (0 : Int32) else (if (ma_186_99 l3 (σ 111 s.1.toNatClampNeg) σ) = (0 : Int32) then (0 : Int32) else (1 : Int32))) else (1 : Int32))) := by exact Eq.trans (if_pos c1) (rfl)
      rw [qa_whl e0]
      exact ih n hn (Nat.le_of_succ_le hF) ((s.1 + (1 : Int32)), (if s.2 = (0 : Int32) then (if (ma_185 (σ 104 l3.toNatClampNeg) s.1) = (0 : Int32) then (0 : Int32) else (if (ma_186_99 l3 (σ 111 s.1.toNatClampNeg) σ) = (0 : Int32) then (0 : Int32) else (1 : Int32))) else (1 : Int32))) _ _ hM es g0 g2 g3 g4 g5 h
    · replace h := qa_ift (q := 115) (qa_e rfl h) rfl (qa_T_ge c1)
      have e0 : mc_222_99_p62 N l2 l3 σ s = .inr (s.1, s.2) := by exact Eq.trans (if_neg c1) (rfl)
      rw [qa_whr e0]
      exact ⟨_, _, q61_mono f F _ _ _ _ _ _ _ _ (Nat.le_of_succ_le hF) h, hM, es, g0, g2, g3, g4⟩
noncomputable def mc_222_99_p48 (N : Nat) (σ : qa_S) (s : Int32 × Int32) : (Int32 × Int32) ⊕ (Int32 × Int32) :=
  if s.1 < (σ 99 5) then
    qa_in ((qa_wh (fun s => s) (mc_222_99_p62 N s.2 s.1 σ) N ((0 : Int32), (0 : Int32)))) fun r2 =>
    .inl ((s.1 + (1 : Int32)), (s.2 + (if r2.2 = (0 : Int32) then (0 : Int32) else (1 : Int32))))
  else
    .inr (s.1, s.2)
theorem md_222_99_p48 {N F : Nat} {r : Option Value × q4_M} {σ : qa_S} (hN : F ≤ N) : ∀ f n, f ≤ n → f ≤ F → ∀ (s : Int32 × Int32) (lv : List (Nat × Value)) (M : q4_M), qa_O M → qa_s M = σ → q4_get lv 0 = some (.ref 99) → q4_get lv 2 = some (.int (s.2)) → q4_get lv 3 = some (.int (s.1)) → q4_run f 222 48 lv [] M 0 0 = some r → ∃ lv M, q4_run F 222 134 lv [] M 0 0 = some r ∧ qa_O M ∧ qa_s M = σ ∧ q4_get lv 2 = some (.int ((qa_wh (fun s => s) (mc_222_99_p48 N σ) n s).2)) := by
  intro f
  induction f with
  | zero => intro n _ _ s lv M hM es _ _ _ h; cases h
  | succ f ih =>
    intro n hn hF s lv M hM es g0 g2 g3 h
    obtain ⟨n, rfl⟩ : ∃ n1, n = n1 + 1 := ⟨n - 1, by omega⟩
    replace hn : f ≤ n := Nat.le_of_succ_le_succ hn
    have hN := Nat.le_trans (Nat.le_of_succ_le hF) hN
    replace h := qa_iload (n := 3) (q := 49) (qa_d rfl h) rfl g3
    replace h := qa_aload (n := 0) (q := 50) (qa_e rfl h) rfl g0
    replace h := qa_gi (j := 5) (q := 53) (qa_e rfl h) rfl hM es rfl (by decide)
    by_cases c1 : s.1 < (σ 99 5)
    · replace h := qa_iff (q := 56) (qa_e rfl h) rfl (qa_F_ge c1)
      replace h := qa_push (z := (0 : Int32)) (q := 57) (qa_e rfl h) rfl (by decide)
      obtain ⟨lv, h, g, T⟩ := qa_istore (n := 4) (q := 59) (qa_e rfl h) rfl
      replace g0 := T _ _ g0 (by decide) (Or.inr rfl)
      replace g2 := T _ _ g2 (by decide) (Or.inr rfl)
      replace g3 := T _ _ g3 (by decide) (Or.inr rfl)
      have g4 := g
      clear g T
      replace h := qa_push (z := (0 : Int32)) (q := 60) (qa_e rfl h) rfl (by decide)
      obtain ⟨lv, h, g, T⟩ := qa_istore (n := 5) (q := 62) (qa_e rfl h) rfl
      replace g0 := T _ _ g0 (by decide) (Or.inr rfl)
      replace g2 := T _ _ g2 (by decide) (Or.inr rfl)
      replace g3 := T _ _ g3 (by decide) (Or.inr rfl)
      replace g4 := T _ _ g4 (by decide) (Or.inr rfl)
      have g5 := g
      clear g T
      obtain ⟨r2, er2⟩ : ∃ x, x = (qa_wh (fun s => s) (mc_222_99_p62 N s.2 s.1 σ) N ((0 : Int32), (0 : Int32))) := ⟨_, rfl⟩
      have L := md_222_99_p62 (l2 := s.2) (l3 := s.1) (σ := σ) (F := f) (N := N) (r := r) hN f N hN (Nat.le_refl f) ((0 : Int32), (0 : Int32)) _ _ hM es g0 g2 g3 g4 g5 h
      rw [← er2] at L
      obtain ⟨lv, M, h, hM, es, g0, g2, g3, g4⟩ := L
      replace h := qa_iload (n := 2) (q := 116) (qa_e rfl h) rfl g2
      replace h := qa_iload (n := 4) (q := 118) (qa_e rfl h) rfl g4
      obtain ⟨lv, M, h, hM, es, g0, g3⟩ : ∃ lv M, q4_run f 222 126 lv [.int ((if r2.2 = (0 : Int32) then (0 : Int32) else (1 : Int32))), .int (s.2)] M 0 0 = some r ∧ qa_O M ∧ qa_s M = σ ∧ q4_get lv 0 = some (.ref 99) ∧ q4_get lv 3 = some (.int (s.1)) := by
        by_cases c3 : r2.2 = (0 : Int32)
        · replace h := qa_ict (q := 125) (qa_e rfl h) rfl (qa_T_eq c3)
          replace h := qa_push (z := (0 : Int32)) (q := 126) (qa_e rfl h) rfl (by decide)
          exact ⟨lv, M, (qa_hi1 c3 h), hM, es, g0, g3⟩
        · replace h := qa_icf (q := 121) (qa_e rfl h) rfl (qa_F_eq c3)
          replace h := qa_push (z := (1 : Int32)) (q := 122) (qa_e rfl h) rfl (by decide)
          replace h := qa_goto (q := 126) (qa_e rfl h) rfl
          exact ⟨lv, M, (qa_hi0 c3 h), hM, es, g0, g3⟩
      replace h := qa_iadd (q := 127) (qa_e rfl h) rfl
      obtain ⟨lv, h, g, T⟩ := qa_istore (n := 2) (q := 128) (qa_e rfl h) rfl
      replace g0 := T _ _ g0 (by decide) (Or.inr rfl)
      replace g3 := T _ _ g3 (by decide) (Or.inr rfl)
      have g2 := g
      clear g T
      obtain ⟨lv, h, g, T⟩ := qa_iinc (n := 3) (z := (1 : Int32)) (q := 131) (qa_e rfl h) rfl (by decide) g3
      replace g0 := T _ _ g0 (by decide) (Or.inr rfl)
      replace g2 := T _ _ g2 (by decide) (Or.inr rfl)
      replace g3 := g
      clear g T
      replace h := qa_goto (q := 48) (qa_e rfl h) rfl
      have e0 : mc_222_99_p48 N σ s = .inl ((s.1 + (1 : Int32)), (s.2 + (if r2.2 = (0 : Int32) then (0 : Int32) else (1 : Int32)))) := by exact Eq.trans (if_pos c1) (Eq.trans (qa_ie er2) (rfl))
      rw [qa_whl e0]
      exact ih n hn (Nat.le_of_succ_le hF) ((s.1 + (1 : Int32)), (s.2 + (if r2.2 = (0 : Int32) then (0 : Int32) else (1 : Int32)))) _ _ hM es g0 g2 g3 h
    · replace h := qa_ift (q := 134) (qa_e rfl h) rfl (qa_T_ge c1)
      have e0 : mc_222_99_p48 N σ s = .inr (s.1, s.2) := by exact Eq.trans (if_neg c1) (rfl)
      rw [qa_whr e0]
      exact ⟨_, _, q61_mono f F _ _ _ _ _ _ _ _ (Nat.le_of_succ_le hF) h, hM, es, g2⟩
/-- BuriedBySevensModel, tellFromWater, (I)I -/
noncomputable def ma_222_99 (N : Nat) (a1 : Int32) (σ : qa_S) : Int32 × qa_S :=
  qa_in ((qa_wh (fun s => s) (mc_222_99_p2 N a1) N ((0 : Int32), σ))) fun r1 =>
  qa_in ((ma_183_99 N r1.2)) fun m2 =>
  qa_in ((qa_wh (fun s => s) (mc_222_99_p48 N m2) N ((0 : Int32), (0 : Int32)))) fun r3 =>
  (r3.2, m2)
theorem mb_222_99 {f N : Nat} (hN : f ≤ N) {M : q4_M} {r : Option Value × q4_M} {σ : qa_S} {a1 : Int32} (hM : qa_O M) (es : qa_s M = σ) (h : q4_run f 222 0 (lv_args 0 [.ref 99, .int (a1)]) [] M 0 0 = some r) : r.1 = some (.int ((ma_222_99 N a1 σ).1)) ∧ qa_O r.2 ∧ qa_s r.2 = (ma_222_99 N a1 σ).2 := by
  obtain ⟨lv, el⟩ : ∃ l, l = lv_args 0 [.ref 99, .int (a1)] := ⟨_, rfl⟩
  have g0 : q4_get lv 0 = some (.ref 99) := by rw [el]; rfl
  have g1 : q4_get lv 1 = some (.int (a1)) := by rw [el]; rfl
  rw [← el] at h
  clear el
  replace h := qa_push (z := (0 : Int32)) (q := 1) (qa_e rfl h) rfl (by decide)
  obtain ⟨lv, h, g, T⟩ := qa_istore (n := 2) (q := 2) (qa_e rfl h) rfl
  replace g0 := T _ _ g0 (by decide) (Or.inr rfl)
  replace g1 := T _ _ g1 (by decide) (Or.inr rfl)
  have g2 := g
  clear g T
  obtain ⟨r1, er1⟩ : ∃ x, x = (qa_wh (fun s => s) (mc_222_99_p2 N a1) N ((0 : Int32), σ)) := ⟨_, rfl⟩
  have L := md_222_99_p2 (l1 := a1) (F := f) (N := N) (r := r) hN f N hN (Nat.le_refl f) ((0 : Int32), σ) _ _ hM es g0 g1 g2 h
  rw [← er1] at L
  obtain ⟨lv, M, h, hM, es, g0⟩ := L
  replace h := qa_aload (n := 0) (q := 41) (qa_e rfl h) rfl g0
  obtain ⟨m2, em2⟩ : ∃ x, x = (ma_183_99 N r1.2) := ⟨_, rfl⟩
  obtain ⟨M, h, hM, es⟩ := qa_c0 (y := 183) (as := [.ref 99]) (rest := []) (i := .invokevirtual 183) (q := 44) (qa_e rfl h) (Or.inl rfl) rfl rfl (by decide) rfl (fun r hc => mb_183_99 hN hM es hc)
  rw [← em2] at es
  replace h := qa_push (z := (0 : Int32)) (q := 45) (qa_e rfl h) rfl (by decide)
  obtain ⟨lv, h, g, T⟩ := qa_istore (n := 2) (q := 46) (qa_e rfl h) rfl
  replace g0 := T _ _ g0 (by decide) (Or.inr rfl)
  have g2 := g
  clear g T
  replace h := qa_push (z := (0 : Int32)) (q := 47) (qa_e rfl h) rfl (by decide)
  obtain ⟨lv, h, g, T⟩ := qa_istore (n := 3) (q := 48) (qa_e rfl h) rfl
  replace g0 := T _ _ g0 (by decide) (Or.inr rfl)
  replace g2 := T _ _ g2 (by decide) (Or.inr rfl)
  have g3 := g
  clear g T
  obtain ⟨r3, er3⟩ : ∃ x, x = (qa_wh (fun s => s) (mc_222_99_p48 N m2) N ((0 : Int32), (0 : Int32))) := ⟨_, rfl⟩
  have L := md_222_99_p48 (σ := m2) (F := f) (N := N) (r := r) hN f N hN (Nat.le_refl f) ((0 : Int32), (0 : Int32)) _ _ hM es g0 g2 g3 h
  rw [← er3] at L
  obtain ⟨lv, M, h, hM, es, g2⟩ := L
  replace h := qa_iload (n := 2) (q := 135) (qa_e rfl h) rfl g2
  have er := qa_ri (qa_e rfl h)
  subst er
  have e0 : ma_222_99 N a1 σ = (r3.2, m2) := by exact Eq.trans (qa_ie er1) (Eq.trans (qa_ie em2) (Eq.trans (qa_ie er3) (rfl)))
  rw [e0]
  exact ⟨rfl, hM, es⟩
noncomputable def mc_221_99_p120 (N : Nat) (l1 : Int32) (l2 : Int32) (l4 : Int32) (l5 : Int32) (s : Int32 × Int64 × qa_S) : (Int32 × Int64 × qa_S) ⊕ (Int32 × Int64 × qa_S) :=
  if s.1 < ((1 : Int32) <<< ((s.2.2 99 0) &&& 31)) then
    qa_in ((ma_208 N s.1)) fun r4 =>
    qa_in ((ma_222_99 N (s.1 ||| ((1 : Int32) <<< (l1 &&& 31))) s.2.2)) fun r5 =>
    qa_in ((ma_222_99 N s.1 r5.2)) fun r6 =>
    qa_in ((ma_215 N r4)) fun r7 =>
    qa_in ((ma_215 N ((l5 - (1 : Int32)) - r4))) fun r8 =>
    qa_in ((if (ma_185 s.1 l1) = (0 : Int32) then r6.2 else s.2.2)) fun m9 =>
    qa_in ((if (s.1 &&& (l4 ^^^ (-1 : Int32))) = (0 : Int32) then m9 else s.2.2)) fun m10 =>
    .inl ((s.1 + (1 : Int32)), (if (s.1 &&& (l4 ^^^ (-1 : Int32))) = (0 : Int32) then (if (ma_185 s.1 l1) = (0 : Int32) then (s.2.1 + ((((r5.1 - r6.1)).toInt64 * (r7).toInt64) * (r8).toInt64)) else s.2.1) else s.2.1), m10)
  else
    .inr (s.1, s.2.1, s.2.2)
theorem md_221_99_p120 {N F : Nat} {r : Option Value × q4_M} {l1 : Int32} {l2 : Int32} {l4 : Int32} {l5 : Int32} (hN : F ≤ N) : ∀ f n, f ≤ n → f ≤ F → ∀ (s : Int32 × Int64 × qa_S) (lv : List (Nat × Value)) (M : q4_M), qa_O M → qa_s M = s.2.2 → q4_get lv 0 = some (.ref 99) → q4_get lv 1 = some (.int (l1)) → q4_get lv 2 = some (.int (l2)) → q4_get lv 4 = some (.int (l4)) → q4_get lv 5 = some (.int (l5)) → q4_get lv 6 = some (.long (s.2.1)) → q4_get lv 8 = some (.int (s.1)) → q4_run f 221 120 lv [] M 0 0 = some r → ∃ lv M, q4_run F 221 209 lv [] M 0 0 = some r ∧ qa_O M ∧ qa_s M = (qa_wh (fun s => s) (mc_221_99_p120 N l1 l2 l4 l5) n s).2.2 ∧ q4_get lv 2 = some (.int (l2)) ∧ q4_get lv 5 = some (.int (l5)) ∧ q4_get lv 6 = some (.long ((qa_wh (fun s => s) (mc_221_99_p120 N l1 l2 l4 l5) n s).2.1)) := by
  intro f
  induction f with
  | zero => intro n _ _ s lv M hM es _ _ _ _ _ _ _ h; cases h
  | succ f ih =>
    intro n hn hF s lv M hM es g0 g1 g2 g4 g5 g6 g8 h
    obtain ⟨n, rfl⟩ : ∃ n1, n = n1 + 1 := ⟨n - 1, by omega⟩
    replace hn : f ≤ n := Nat.le_of_succ_le_succ hn
    have hN := Nat.le_trans (Nat.le_of_succ_le hF) hN
    replace h := qa_iload (n := 8) (q := 122) (qa_d rfl h) rfl g8
    replace h := qa_push (z := (1 : Int32)) (q := 123) (qa_e rfl h) rfl (by decide)
    replace h := qa_aload (n := 0) (q := 124) (qa_e rfl h) rfl g0
    replace h := qa_gi (j := 0) (q := 127) (qa_e rfl h) rfl hM es rfl (by decide)
    replace h := qa_ishl (q := 128) (qa_e rfl h) rfl
    by_cases c1 : s.1 < ((1 : Int32) <<< ((s.2.2 99 0) &&& 31))
    · replace h := qa_iff (q := 131) (qa_e rfl h) rfl (qa_F_ge c1)
      replace h := qa_iload (n := 8) (q := 133) (qa_e rfl h) rfl g8
      replace h := qa_iload (n := 4) (q := 135) (qa_e rfl h) rfl g4
      replace h := qa_push (z := (-1 : Int32)) (q := 136) (qa_e rfl h) rfl (by decide)
      replace h := qa_ixor (q := 137) (qa_e rfl h) rfl
      replace h := qa_iand (q := 138) (qa_e rfl h) rfl
      obtain ⟨r4, er4⟩ : ∃ x, x = (ma_208 N s.1) := ⟨_, rfl⟩
      obtain ⟨r5, er5⟩ : ∃ x, x = (ma_222_99 N (s.1 ||| ((1 : Int32) <<< (l1 &&& 31))) s.2.2) := ⟨_, rfl⟩
      obtain ⟨r6, er6⟩ : ∃ x, x = (ma_222_99 N s.1 r5.2) := ⟨_, rfl⟩
      obtain ⟨r7, er7⟩ : ∃ x, x = (ma_215 N r4) := ⟨_, rfl⟩
      obtain ⟨r8, er8⟩ : ∃ x, x = (ma_215 N ((l5 - (1 : Int32)) - r4)) := ⟨_, rfl⟩
      obtain ⟨m9, em9⟩ : ∃ x, x = (if (ma_185 s.1 l1) = (0 : Int32) then r6.2 else s.2.2) := ⟨_, rfl⟩
      obtain ⟨m10, em10⟩ : ∃ x, x = (if (s.1 &&& (l4 ^^^ (-1 : Int32))) = (0 : Int32) then m9 else s.2.2) := ⟨_, rfl⟩
      obtain ⟨lv, M, h, hM, es, g0, g1, g2, g4, g5, g6, g8⟩ : ∃ lv M, q4_run f 221 203 lv [] M 0 0 = some r ∧ qa_O M ∧ qa_s M = m10 ∧ q4_get lv 0 = some (.ref 99) ∧ q4_get lv 1 = some (.int (l1)) ∧ q4_get lv 2 = some (.int (l2)) ∧ q4_get lv 4 = some (.int (l4)) ∧ q4_get lv 5 = some (.int (l5)) ∧ q4_get lv 6 = some (.long ((if (s.1 &&& (l4 ^^^ (-1 : Int32))) = (0 : Int32) then (if (ma_185 s.1 l1) = (0 : Int32) then (s.2.1 + ((((r5.1 - r6.1)).toInt64 * (r7).toInt64) * (r8).toInt64)) else s.2.1) else s.2.1))) ∧ q4_get lv 8 = some (.int (s.1)) := by
        by_cases c2 : (s.1 &&& (l4 ^^^ (-1 : Int32))) = (0 : Int32)
        · replace h := qa_icf (q := 141) (qa_e rfl h) rfl (qa_F_ne c2)
          replace h := qa_iload (n := 8) (q := 143) (qa_e rfl h) rfl g8
          replace h := qa_iload (n := 1) (q := 144) (qa_e rfl h) rfl g1
          obtain ⟨M, h, hM, es⟩ := qa_c1 (y := 185) (as := [.int (s.1), .int (l1)]) (rest := []) (i := .invokestatic 185) (q := 147) (qa_e rfl h) (Or.inr rfl) rfl rfl (by decide) rfl (fun r hc => mb_185 hM es hc)
          obtain ⟨lv, M, h, hM, es, g0, g1, g2, g4, g5, g6, g8⟩ : ∃ lv M, q4_run f 221 203 lv [] M 0 0 = some r ∧ qa_O M ∧ qa_s M = m9 ∧ q4_get lv 0 = some (.ref 99) ∧ q4_get lv 1 = some (.int (l1)) ∧ q4_get lv 2 = some (.int (l2)) ∧ q4_get lv 4 = some (.int (l4)) ∧ q4_get lv 5 = some (.int (l5)) ∧ q4_get lv 6 = some (.long ((if (ma_185 s.1 l1) = (0 : Int32) then (s.2.1 + ((((r5.1 - r6.1)).toInt64 * (r7).toInt64) * (r8).toInt64)) else s.2.1))) ∧ q4_get lv 8 = some (.int (s.1)) := by
            by_cases c3 : (ma_185 s.1 l1) = (0 : Int32)
            · replace h := qa_icf (q := 150) (qa_e rfl h) rfl (qa_F_ne c3)
              replace h := qa_iload (n := 8) (q := 152) (qa_e rfl h) rfl g8
              obtain ⟨M, h, hM, es⟩ := qa_c1 (y := 208) (as := [.int (s.1)]) (rest := []) (i := .invokestatic 208) (q := 155) (qa_e rfl h) (Or.inr rfl) rfl rfl (by decide) rfl (fun r hc => mb_208 hN hM es hc)
              rw [← er4] at h
              obtain ⟨lv, h, g, T⟩ := qa_istore (n := 9) (q := 157) (qa_e rfl h) rfl
              replace g0 := T _ _ g0 (by decide) (Or.inr rfl)
              replace g1 := T _ _ g1 (by decide) (Or.inr rfl)
              replace g2 := T _ _ g2 (by decide) (Or.inr rfl)
              replace g4 := T _ _ g4 (by decide) (Or.inr rfl)
              replace g5 := T _ _ g5 (by decide) (Or.inr rfl)
              replace g6 := T _ _ g6 (by decide) (Or.inl (by decide))
              replace g8 := T _ _ g8 (by decide) (Or.inr rfl)
              have g9 := g
              clear g T
              replace h := qa_aload (n := 0) (q := 158) (qa_e rfl h) rfl g0
              replace h := qa_iload (n := 8) (q := 160) (qa_e rfl h) rfl g8
              replace h := qa_push (z := (1 : Int32)) (q := 161) (qa_e rfl h) rfl (by decide)
              replace h := qa_iload (n := 1) (q := 162) (qa_e rfl h) rfl g1
              replace h := qa_ishl (q := 163) (qa_e rfl h) rfl
              replace h := qa_ior (q := 164) (qa_e rfl h) rfl
              obtain ⟨M, h, hM, es⟩ := qa_c1 (y := 222) (as := [.ref 99, .int ((s.1 ||| ((1 : Int32) <<< (l1 &&& 31))))]) (rest := []) (i := .invokevirtual 222) (q := 167) (qa_e rfl h) (Or.inl rfl) rfl rfl (by decide) rfl (fun r hc => mb_222_99 hN hM es hc)
              rw [← er5] at h es
              replace h := qa_aload (n := 0) (q := 168) (qa_e rfl h) rfl g0
              replace h := qa_iload (n := 8) (q := 170) (qa_e rfl h) rfl g8
              obtain ⟨M, h, hM, es⟩ := qa_c1 (y := 222) (as := [.ref 99, .int (s.1)]) (rest := [.int (r5.1)]) (i := .invokevirtual 222) (q := 173) (qa_e rfl h) (Or.inl rfl) rfl rfl (by decide) rfl (fun r hc => mb_222_99 hN hM es hc)
              rw [← er6] at h es
              replace h := qa_isub (q := 174) (qa_e rfl h) rfl
              obtain ⟨lv, h, g, T⟩ := qa_istore (n := 10) (q := 176) (qa_e rfl h) rfl
              replace g0 := T _ _ g0 (by decide) (Or.inr rfl)
              replace g1 := T _ _ g1 (by decide) (Or.inr rfl)
              replace g2 := T _ _ g2 (by decide) (Or.inr rfl)
              replace g4 := T _ _ g4 (by decide) (Or.inr rfl)
              replace g5 := T _ _ g5 (by decide) (Or.inr rfl)
              replace g6 := T _ _ g6 (by decide) (Or.inl (by decide))
              replace g8 := T _ _ g8 (by decide) (Or.inr rfl)
              replace g9 := T _ _ g9 (by decide) (Or.inr rfl)
              have g10 := g
              clear g T
              replace h := qa_lload (n := 6) (q := 178) (qa_e rfl h) rfl g6
              replace h := qa_iload (n := 10) (q := 180) (qa_e rfl h) rfl g10
              replace h := qa_i2l (q := 181) (qa_e rfl h) rfl
              replace h := qa_iload (n := 9) (q := 183) (qa_e rfl h) rfl g9
              obtain ⟨M, h, hM, es⟩ := qa_c1 (y := 215) (as := [.int (r4)]) (rest := [.long (((r5.1 - r6.1)).toInt64), .long (s.2.1)]) (i := .invokestatic 215) (q := 186) (qa_e rfl h) (Or.inr rfl) rfl rfl (by decide) rfl (fun r hc => mb_215 hN hM es hc)
              rw [← er7] at h
              replace h := qa_i2l (q := 187) (qa_e rfl h) rfl
              replace h := qa_lmul (q := 188) (qa_e rfl h) rfl
              replace h := qa_iload (n := 5) (q := 190) (qa_e rfl h) rfl g5
              replace h := qa_push (z := (1 : Int32)) (q := 191) (qa_e rfl h) rfl (by decide)
              replace h := qa_isub (q := 192) (qa_e rfl h) rfl
              replace h := qa_iload (n := 9) (q := 194) (qa_e rfl h) rfl g9
              replace h := qa_isub (q := 195) (qa_e rfl h) rfl
              obtain ⟨M, h, hM, es⟩ := qa_c1 (y := 215) (as := [.int (((l5 - (1 : Int32)) - r4))]) (rest := [.long ((((r5.1 - r6.1)).toInt64 * (r7).toInt64)), .long (s.2.1)]) (i := .invokestatic 215) (q := 198) (qa_e rfl h) (Or.inr rfl) rfl rfl (by decide) rfl (fun r hc => mb_215 hN hM es hc)
              rw [← er8] at h
              replace h := qa_i2l (q := 199) (qa_e rfl h) rfl
              replace h := qa_lmul (q := 200) (qa_e rfl h) rfl
              replace h := qa_ladd (q := 201) (qa_e rfl h) rfl
              obtain ⟨lv, h, g, T⟩ := qa_lstore (n := 6) (q := 203) (qa_e rfl h) rfl
              replace g0 := T _ _ g0 (by decide) (by decide) (Or.inr rfl)
              replace g1 := T _ _ g1 (by decide) (by decide) (Or.inr rfl)
              replace g2 := T _ _ g2 (by decide) (by decide) (Or.inr rfl)
              replace g4 := T _ _ g4 (by decide) (by decide) (Or.inr rfl)
              replace g5 := T _ _ g5 (by decide) (by decide) (Or.inr rfl)
              replace g8 := T _ _ g8 (by decide) (by decide) (Or.inr rfl)
              have g6 := g
              clear g T
              exact ⟨lv, M, h, hM, ((qa_ms1 c3 es).trans em9.symm), g0, g1, g2, g4, g5, (qa_gl1 c3 g6), g8⟩
            · replace h := qa_ict (q := 203) (qa_e rfl h) rfl (qa_T_ne c3)
              exact ⟨lv, M, h, hM, ((qa_ms0 c3 es).trans em9.symm), g0, g1, g2, g4, g5, (qa_gl0 c3 g6), g8⟩
          exact ⟨lv, M, h, hM, ((qa_ms1 c2 es).trans em10.symm), g0, g1, g2, g4, g5, (qa_gl1 c2 g6), g8⟩
        · replace h := qa_ict (q := 203) (qa_e rfl h) rfl (qa_T_ne c2)
          exact ⟨lv, M, h, hM, ((qa_ms0 c2 es).trans em10.symm), g0, g1, g2, g4, g5, (qa_gl0 c2 g6), g8⟩
      obtain ⟨lv, h, g, T⟩ := qa_iinc (n := 8) (z := (1 : Int32)) (q := 206) (qa_e rfl h) rfl (by decide) g8
      replace g0 := T _ _ g0 (by decide) (Or.inr rfl)
      replace g1 := T _ _ g1 (by decide) (Or.inr rfl)
      replace g2 := T _ _ g2 (by decide) (Or.inr rfl)
      replace g4 := T _ _ g4 (by decide) (Or.inr rfl)
      replace g5 := T _ _ g5 (by decide) (Or.inr rfl)
      replace g6 := T _ _ g6 (by decide) (Or.inl (by decide))
      replace g8 := g
      clear g T
      replace h := qa_goto (q := 120) (qa_e rfl h) rfl
      have e0 : mc_221_99_p120 N l1 l2 l4 l5 s = .inl ((s.1 + (1 : Int32)), (if (s.1 &&& (l4 ^^^ (-1 : Int32))) = (0 : Int32) then (if (ma_185 s.1 l1) = (0 : Int32) then (s.2.1 + ((((r5.1 - r6.1)).toInt64 * (r7).toInt64) * (r8).toInt64)) else s.2.1) else s.2.1), m10) := by exact Eq.trans (if_pos c1) (Eq.trans (qa_ie er4) (Eq.trans (qa_ie er5) (Eq.trans (qa_ie er6) (Eq.trans (qa_ie er7) (Eq.trans (qa_ie er8) (Eq.trans (qa_ie em9) (Eq.trans (qa_ie em10) (rfl))))))))
      rw [qa_whl e0]
      exact ih n hn (Nat.le_of_succ_le hF) ((s.1 + (1 : Int32)), (if (s.1 &&& (l4 ^^^ (-1 : Int32))) = (0 : Int32) then (if (ma_185 s.1 l1) = (0 : Int32) then (s.2.1 + ((((r5.1 - r6.1)).toInt64 * (r7).toInt64) * (r8).toInt64)) else s.2.1) else s.2.1), m10) _ _ hM es g0 g1 g2 g4 g5 g6 g8 h
    · replace h := qa_ift (q := 209) (qa_e rfl h) rfl (qa_T_ge c1)
      have e0 : mc_221_99_p120 N l1 l2 l4 l5 s = .inr (s.1, s.2.1, s.2.2) := by exact Eq.trans (if_neg c1) (rfl)
      rw [qa_whr e0]
      exact ⟨_, _, q61_mono f F _ _ _ _ _ _ _ _ (Nat.le_of_succ_le hF) h, hM, es, g2, g5, g6⟩
/-- BuriedBySevensModel, adds, (II)J -/
noncomputable def ma_221_99 (N : Nat) (a1 : Int32) (a2 : Int32) (σ : qa_S) : Int64 × qa_S :=
  qa_in (qa_u σ 99 9 (0 : Int32)) fun m1 =>
  if (if (if (ma_163_99 a1 m1) = (0 : Int32) then (-1 : Int32) else (ma_201 (0 : Int32) a2 (1 : Int32))) = (0 : Int32) then (if (m1 103 a1.toNatClampNeg) = (0 : Int32) then (-3 : Int32) else (if (ma_163_99 a1 m1) = (0 : Int32) then (-1 : Int32) else (ma_201 (0 : Int32) a2 (1 : Int32)))) else (if (ma_163_99 a1 m1) = (0 : Int32) then (-1 : Int32) else (ma_201 (0 : Int32) a2 (1 : Int32)))) < (0 : Int32) then
    qa_in ((ma_152_99 (if (if (ma_163_99 a1 m1) = (0 : Int32) then (-1 : Int32) else (ma_201 (0 : Int32) a2 (1 : Int32))) = (0 : Int32) then (if (m1 103 a1.toNatClampNeg) = (0 : Int32) then (-3 : Int32) else (if (ma_163_99 a1 m1) = (0 : Int32) then (-1 : Int32) else (ma_201 (0 : Int32) a2 (1 : Int32)))) else (if (ma_163_99 a1 m1) = (0 : Int32) then (-1 : Int32) else (ma_201 (0 : Int32) a2 (1 : Int32)))) m1)) fun r6 =>
    (((4000000000000000000 : Int64) - (r6.1).toInt64), r6.2)
  else
    qa_in ((ma_181_99 N m1)) fun m7 =>
    qa_in ((qa_wh (fun s => s) (mc_221_99_p69 N a1 a2 m7) N ((0 : Int32), (0 : Int32)))) fun r8 =>
    qa_in ((ma_208 N r8.2)) fun r9 =>
    qa_in ((qa_wh (fun s => s) (mc_221_99_p120 N a1 a2 r8.2 r9) N ((0 : Int32), (0 : Int64), m7))) fun r10 =>
    qa_in ((ma_215 N r9)) fun r11 =>
    qa_in ((ma_203 N r10.2.1 (r11).toInt64 a2)) fun r12 =>
    (r12, r10.2.2)
theorem mb_221_99 {f N : Nat} (hN : f ≤ N) {M : q4_M} {r : Option Value × q4_M} {σ : qa_S} {a1 : Int32} {a2 : Int32} (hM : qa_O M) (es : qa_s M = σ) (h : q4_run f 221 0 (lv_args 0 [.ref 99, .int (a1), .int (a2)]) [] M 0 0 = some r) : r.1 = some (.long ((ma_221_99 N a1 a2 σ).1)) ∧ qa_O r.2 ∧ qa_s r.2 = (ma_221_99 N a1 a2 σ).2 := by
  obtain ⟨lv, el⟩ : ∃ l, l = lv_args 0 [.ref 99, .int (a1), .int (a2)] := ⟨_, rfl⟩
  have g0 : q4_get lv 0 = some (.ref 99) := by rw [el]; rfl
  have g1 : q4_get lv 1 = some (.int (a1)) := by rw [el]; rfl
  have g2 : q4_get lv 2 = some (.int (a2)) := by rw [el]; rfl
  rw [← el] at h
  clear el
  replace h := qa_aload (n := 0) (q := 1) (qa_e rfl h) rfl g0
  replace h := qa_push (z := (0 : Int32)) (q := 2) (qa_e rfl h) rfl (by decide)
  obtain ⟨m1, em1⟩ : ∃ x, x = qa_u σ 99 9 (0 : Int32) := ⟨_, rfl⟩
  obtain ⟨M, h, hM, es⟩ := qa_pf (j := 9) (q := 5) (qa_e rfl h) rfl hM es rfl (by decide)
  rw [← em1] at es
  replace h := qa_aload (n := 0) (q := 6) (qa_e rfl h) rfl g0
  replace h := qa_iload (n := 1) (q := 7) (qa_e rfl h) rfl g1
  obtain ⟨M, h, hM, es⟩ := qa_c1 (y := 163) (as := [.ref 99, .int (a1)]) (rest := []) (i := .invokevirtual 163) (q := 10) (qa_e rfl h) (Or.inl rfl) rfl rfl (by decide) rfl (fun r hc => mb_163_99 hM es hc)
  obtain ⟨lv, M, h, hM, es, g0, g1, g2⟩ : ∃ lv M, q4_run f 221 23 lv [.int ((if (ma_163_99 a1 m1) = (0 : Int32) then (-1 : Int32) else (ma_201 (0 : Int32) a2 (1 : Int32))))] M 0 0 = some r ∧ qa_O M ∧ qa_s M = m1 ∧ q4_get lv 0 = some (.ref 99) ∧ q4_get lv 1 = some (.int (a1)) ∧ q4_get lv 2 = some (.int (a2)) := by
    by_cases c2 : (ma_163_99 a1 m1) = (0 : Int32)
    · replace h := qa_ict (q := 22) (qa_e rfl h) rfl (qa_T_eq c2)
      replace h := qa_push (z := (-1 : Int32)) (q := 23) (qa_e rfl h) rfl (by decide)
      exact ⟨lv, M, (qa_hi1 c2 h), hM, es, g0, g1, g2⟩
    · replace h := qa_icf (q := 13) (qa_e rfl h) rfl (qa_F_eq c2)
      replace h := qa_push (z := (0 : Int32)) (q := 14) (qa_e rfl h) rfl (by decide)
      replace h := qa_iload (n := 2) (q := 15) (qa_e rfl h) rfl g2
      replace h := qa_push (z := (1 : Int32)) (q := 16) (qa_e rfl h) rfl (by decide)
      obtain ⟨M, h, hM, es⟩ := qa_c1 (y := 201) (as := [.int ((0 : Int32)), .int (a2), .int ((1 : Int32))]) (rest := []) (i := .invokestatic 201) (q := 19) (qa_e rfl h) (Or.inr rfl) rfl rfl (by decide) rfl (fun r hc => mb_201 hM es hc)
      replace h := qa_goto (q := 23) (qa_e rfl h) rfl
      exact ⟨lv, M, (qa_hi0 c2 h), hM, es, g0, g1, g2⟩
  obtain ⟨lv, h, g, T⟩ := qa_istore (n := 3) (q := 24) (qa_e rfl h) rfl
  replace g0 := T _ _ g0 (by decide) (Or.inr rfl)
  replace g1 := T _ _ g1 (by decide) (Or.inr rfl)
  replace g2 := T _ _ g2 (by decide) (Or.inr rfl)
  have g3 := g
  clear g T
  replace h := qa_iload (n := 3) (q := 25) (qa_e rfl h) rfl g3
  obtain ⟨lv, M, h, hM, es, g0, g1, g2⟩ : ∃ lv M, q4_run f 221 43 lv [.int ((if (if (ma_163_99 a1 m1) = (0 : Int32) then (-1 : Int32) else (ma_201 (0 : Int32) a2 (1 : Int32))) = (0 : Int32) then (if (m1 103 a1.toNatClampNeg) = (0 : Int32) then (-3 : Int32) else (if (ma_163_99 a1 m1) = (0 : Int32) then (-1 : Int32) else (ma_201 (0 : Int32) a2 (1 : Int32)))) else (if (ma_163_99 a1 m1) = (0 : Int32) then (-1 : Int32) else (ma_201 (0 : Int32) a2 (1 : Int32)))))] M 0 0 = some r ∧ qa_O M ∧ qa_s M = m1 ∧ q4_get lv 0 = some (.ref 99) ∧ q4_get lv 1 = some (.int (a1)) ∧ q4_get lv 2 = some (.int (a2)) := by
    by_cases c3 : (if (ma_163_99 a1 m1) = (0 : Int32) then (-1 : Int32) else (ma_201 (0 : Int32) a2 (1 : Int32))) = (0 : Int32)
    · replace h := qa_icf (q := 28) (qa_e rfl h) rfl (qa_F_ne c3)
      replace h := qa_aload (n := 0) (q := 29) (qa_e rfl h) rfl g0
      replace h := qa_gr (b := 103) (j := 4) (q := 32) (qa_e rfl h) rfl hM rfl (by decide)
      replace h := qa_iload (n := 1) (q := 33) (qa_e rfl h) rfl g1
      replace h := qa_iaload (jn := a1.toNatClampNeg) (q := 34) (qa_e rfl h) rfl hM es rfl
      obtain ⟨lv, M, h, hM, es, g0, g1, g2⟩ : ∃ lv M, q4_run f 221 43 lv [.int ((if (m1 103 a1.toNatClampNeg) = (0 : Int32) then (-3 : Int32) else (if (ma_163_99 a1 m1) = (0 : Int32) then (-1 : Int32) else (ma_201 (0 : Int32) a2 (1 : Int32)))))] M 0 0 = some r ∧ qa_O M ∧ qa_s M = m1 ∧ q4_get lv 0 = some (.ref 99) ∧ q4_get lv 1 = some (.int (a1)) ∧ q4_get lv 2 = some (.int (a2)) := by
        by_cases c4 : (m1 103 a1.toNatClampNeg) = (0 : Int32)
        · replace h := qa_icf (q := 37) (qa_e rfl h) rfl (qa_F_ne c4)
          replace h := qa_push (z := (-3 : Int32)) (q := 39) (qa_e rfl h) rfl (by decide)
          replace h := qa_goto (q := 43) (qa_e rfl h) rfl
          exact ⟨lv, M, (qa_hi1 c4 h), hM, es, g0, g1, g2⟩
        · replace h := qa_ict (q := 42) (qa_e rfl h) rfl (qa_T_ne c4)
          replace h := qa_iload (n := 3) (q := 43) (qa_e rfl h) rfl g3
          exact ⟨lv, M, (qa_hi0 c4 h), hM, es, g0, g1, g2⟩
      exact ⟨lv, M, (qa_hi1 c3 h), hM, es, g0, g1, g2⟩
    · replace h := qa_ict (q := 42) (qa_e rfl h) rfl (qa_T_ne c3)
      replace h := qa_iload (n := 3) (q := 43) (qa_e rfl h) rfl g3
      exact ⟨lv, M, (qa_hi0 c3 h), hM, es, g0, g1, g2⟩
  obtain ⟨lv, h, g, T⟩ := qa_istore (n := 3) (q := 44) (qa_e rfl h) rfl
  replace g0 := T _ _ g0 (by decide) (Or.inr rfl)
  replace g1 := T _ _ g1 (by decide) (Or.inr rfl)
  replace g2 := T _ _ g2 (by decide) (Or.inr rfl)
  have g3 := g
  clear g T
  replace h := qa_iload (n := 3) (q := 45) (qa_e rfl h) rfl g3
  by_cases c5 : (if (if (ma_163_99 a1 m1) = (0 : Int32) then (-1 : Int32) else (ma_201 (0 : Int32) a2 (1 : Int32))) = (0 : Int32) then (if (m1 103 a1.toNatClampNeg) = (0 : Int32) then (-3 : Int32) else (if (ma_163_99 a1 m1) = (0 : Int32) then (-1 : Int32) else (ma_201 (0 : Int32) a2 (1 : Int32)))) else (if (ma_163_99 a1 m1) = (0 : Int32) then (-1 : Int32) else (ma_201 (0 : Int32) a2 (1 : Int32)))) < (0 : Int32)
  · replace h := qa_icf (q := 48) (qa_e rfl h) rfl (qa_F_ge c5)
    replace h := qa_lpush (z := (4000000000000000000 : Int64)) (q := 51) (qa_e rfl h) rfl (by decide)
    replace h := qa_aload (n := 0) (q := 52) (qa_e rfl h) rfl g0
    replace h := qa_iload (n := 3) (q := 53) (qa_e rfl h) rfl g3
    obtain ⟨r6, er6⟩ : ∃ x, x = (ma_152_99 (if (if (ma_163_99 a1 m1) = (0 : Int32) then (-1 : Int32) else (ma_201 (0 : Int32) a2 (1 : Int32))) = (0 : Int32) then (if (m1 103 a1.toNatClampNeg) = (0 : Int32) then (-3 : Int32) else (if (ma_163_99 a1 m1) = (0 : Int32) then (-1 : Int32) else (ma_201 (0 : Int32) a2 (1 : Int32)))) else (if (ma_163_99 a1 m1) = (0 : Int32) then (-1 : Int32) else (ma_201 (0 : Int32) a2 (1 : Int32)))) m1) := ⟨_, rfl⟩
    obtain ⟨M, h, hM, es⟩ := qa_c1 (y := 152) (as := [.ref 99, .int ((if (if (ma_163_99 a1 m1) = (0 : Int32) then (-1 : Int32) else (ma_201 (0 : Int32) a2 (1 : Int32))) = (0 : Int32) then (if (m1 103 a1.toNatClampNeg) = (0 : Int32) then (-3 : Int32) else (if (ma_163_99 a1 m1) = (0 : Int32) then (-1 : Int32) else (ma_201 (0 : Int32) a2 (1 : Int32)))) else (if (ma_163_99 a1 m1) = (0 : Int32) then (-1 : Int32) else (ma_201 (0 : Int32) a2 (1 : Int32)))))]) (rest := [.long ((4000000000000000000 : Int64))]) (i := .invokevirtual 152) (q := 56) (qa_e rfl h) (Or.inl rfl) rfl rfl (by decide) rfl (fun r hc => mb_152_99 hM es hc)
    rw [← er6] at h es
    replace h := qa_i2l (q := 57) (qa_e rfl h) rfl
    replace h := qa_lsub (q := 58) (qa_e rfl h) rfl
    have er := qa_rl (qa_e rfl h)
    subst er
    have e0 : ma_221_99 N a1 a2 σ = (((4000000000000000000 : Int64) - (r6.1).toInt64), r6.2) := by exact Eq.trans (qa_ie em1) (Eq.trans (if_pos c5) (Eq.trans (qa_ie er6) (rfl)))
    rw [e0]
    exact ⟨rfl, hM, es⟩
  · replace h := qa_ict (q := 59) (qa_e rfl h) rfl (qa_T_ge c5)
    replace h := qa_aload (n := 0) (q := 60) (qa_e rfl h) rfl g0
    obtain ⟨m7, em7⟩ : ∃ x, x = (ma_181_99 N m1) := ⟨_, rfl⟩
    obtain ⟨M, h, hM, es⟩ := qa_c0 (y := 181) (as := [.ref 99]) (rest := []) (i := .invokevirtual 181) (q := 63) (qa_e rfl h) (Or.inl rfl) rfl rfl (by decide) rfl (fun r hc => mb_181_99 hN hM es hc)
    rw [← em7] at es
    replace h := qa_push (z := (0 : Int32)) (q := 64) (qa_e rfl h) rfl (by decide)
    obtain ⟨lv, h, g, T⟩ := qa_istore (n := 4) (q := 66) (qa_e rfl h) rfl
    replace g0 := T _ _ g0 (by decide) (Or.inr rfl)
    replace g1 := T _ _ g1 (by decide) (Or.inr rfl)
    replace g2 := T _ _ g2 (by decide) (Or.inr rfl)
    have g4 := g
    clear g T
    replace h := qa_push (z := (0 : Int32)) (q := 67) (qa_e rfl h) rfl (by decide)
    obtain ⟨lv, h, g, T⟩ := qa_istore (n := 5) (q := 69) (qa_e rfl h) rfl
    replace g0 := T _ _ g0 (by decide) (Or.inr rfl)
    replace g1 := T _ _ g1 (by decide) (Or.inr rfl)
    replace g2 := T _ _ g2 (by decide) (Or.inr rfl)
    replace g4 := T _ _ g4 (by decide) (Or.inr rfl)
    have g5 := g
    clear g T
    obtain ⟨r8, er8⟩ : ∃ x, x = (qa_wh (fun s => s) (mc_221_99_p69 N a1 a2 m7) N ((0 : Int32), (0 : Int32))) := ⟨_, rfl⟩
    have L := md_221_99_p69 (l1 := a1) (l2 := a2) (σ := m7) (F := f) (N := N) (r := r) hN f N hN (Nat.le_refl f) ((0 : Int32), (0 : Int32)) _ _ hM es g0 g1 g2 g4 g5 h
    rw [← er8] at L
    obtain ⟨lv, M, h, hM, es, g0, g1, g2, g4⟩ := L
    replace h := qa_iload (n := 4) (q := 109) (qa_e rfl h) rfl g4
    obtain ⟨r9, er9⟩ : ∃ x, x = (ma_208 N r8.2) := ⟨_, rfl⟩
    obtain ⟨M, h, hM, es⟩ := qa_c1 (y := 208) (as := [.int (r8.2)]) (rest := []) (i := .invokestatic 208) (q := 112) (qa_e rfl h) (Or.inr rfl) rfl rfl (by decide) rfl (fun r hc => mb_208 hN hM es hc)
    rw [← er9] at h
    obtain ⟨lv, h, g, T⟩ := qa_istore (n := 5) (q := 114) (qa_e rfl h) rfl
    replace g0 := T _ _ g0 (by decide) (Or.inr rfl)
    replace g1 := T _ _ g1 (by decide) (Or.inr rfl)
    replace g2 := T _ _ g2 (by decide) (Or.inr rfl)
    replace g4 := T _ _ g4 (by decide) (Or.inr rfl)
    have g5 := g
    clear g T
    replace h := qa_lpush (z := (0 : Int64)) (q := 115) (qa_e rfl h) rfl (by decide)
    obtain ⟨lv, h, g, T⟩ := qa_lstore (n := 6) (q := 117) (qa_e rfl h) rfl
    replace g0 := T _ _ g0 (by decide) (by decide) (Or.inr rfl)
    replace g1 := T _ _ g1 (by decide) (by decide) (Or.inr rfl)
    replace g2 := T _ _ g2 (by decide) (by decide) (Or.inr rfl)
    replace g4 := T _ _ g4 (by decide) (by decide) (Or.inr rfl)
    replace g5 := T _ _ g5 (by decide) (by decide) (Or.inr rfl)
    have g6 := g
    clear g T
    replace h := qa_push (z := (0 : Int32)) (q := 118) (qa_e rfl h) rfl (by decide)
    obtain ⟨lv, h, g, T⟩ := qa_istore (n := 8) (q := 120) (qa_e rfl h) rfl
    replace g0 := T _ _ g0 (by decide) (Or.inr rfl)
    replace g1 := T _ _ g1 (by decide) (Or.inr rfl)
    replace g2 := T _ _ g2 (by decide) (Or.inr rfl)
    replace g4 := T _ _ g4 (by decide) (Or.inr rfl)
    replace g5 := T _ _ g5 (by decide) (Or.inr rfl)
    replace g6 := T _ _ g6 (by decide) (Or.inl (by decide))
    have g8 := g
    clear g T
    obtain ⟨r10, er10⟩ : ∃ x, x = (qa_wh (fun s => s) (mc_221_99_p120 N a1 a2 r8.2 r9) N ((0 : Int32), (0 : Int64), m7)) := ⟨_, rfl⟩
    have L := md_221_99_p120 (l1 := a1) (l2 := a2) (l4 := r8.2) (l5 := r9) (F := f) (N := N) (r := r) hN f N hN (Nat.le_refl f) ((0 : Int32), (0 : Int64), m7) _ _ hM es g0 g1 g2 g4 g5 g6 g8 h
    rw [← er10] at L
    obtain ⟨lv, M, h, hM, es, g2, g5, g6⟩ := L
    replace h := qa_lload (n := 6) (q := 211) (qa_e rfl h) rfl g6
    replace h := qa_iload (n := 5) (q := 213) (qa_e rfl h) rfl g5
    obtain ⟨r11, er11⟩ : ∃ x, x = (ma_215 N r9) := ⟨_, rfl⟩
    obtain ⟨M, h, hM, es⟩ := qa_c1 (y := 215) (as := [.int (r9)]) (rest := [.long (r10.2.1)]) (i := .invokestatic 215) (q := 216) (qa_e rfl h) (Or.inr rfl) rfl rfl (by decide) rfl (fun r hc => mb_215 hN hM es hc)
    rw [← er11] at h
    replace h := qa_i2l (q := 217) (qa_e rfl h) rfl
    replace h := qa_iload (n := 2) (q := 218) (qa_e rfl h) rfl g2
    obtain ⟨r12, er12⟩ : ∃ x, x = (ma_203 N r10.2.1 (r11).toInt64 a2) := ⟨_, rfl⟩
    obtain ⟨M, h, hM, es⟩ := qa_c1 (y := 203) (as := [.long (r10.2.1), .long ((r11).toInt64), .int (a2)]) (rest := []) (i := .invokestatic 203) (q := 221) (qa_e rfl h) (Or.inr rfl) rfl rfl (by decide) rfl (fun r hc => mb_203 hN hM es hc)
    rw [← er12] at h
    have er := qa_rl (qa_e rfl h)
    subst er
    have e0 : ma_221_99 N a1 a2 σ = (r12, r10.2.2) := by exact Eq.trans (qa_ie em1) (Eq.trans (if_neg c5) (Eq.trans (qa_ie em7) (Eq.trans (qa_ie er8) (Eq.trans (qa_ie er9) (Eq.trans (qa_ie er10) (Eq.trans (qa_ie er11) (Eq.trans (qa_ie er12) (rfl))))))))
    rw [e0]
    exact ⟨rfl, hM, es⟩
noncomputable def mc_223_99_p61 (N : Nat) (l1 : Int32) (l2 : Int32) (l4 : Int64) (l6 : Int64) (l8 : Int32) (σ : qa_S) (s : Int32 × Int64) : (Int32 × Int64) ⊕ (Int32 × Int64) :=
  if s.1 < (σ 99 5) then
    .inl ((s.1 + (1 : Int32)), (s.2 * (if (ma_185 l8 s.1) = (0 : Int32) then (1 : Int64) else ((l1 - (1 : Int32))).toInt64)))
  else
    .inr (s.1, s.2)
theorem md_223_99_p61 {N F : Nat} {r : Option Value × q4_M} {l1 : Int32} {l2 : Int32} {l4 : Int64} {l6 : Int64} {l8 : Int32} {σ : qa_S} (hN : F ≤ N) : ∀ f n, f ≤ n → f ≤ F → ∀ (s : Int32 × Int64) (lv : List (Nat × Value)) (M : q4_M), qa_O M → qa_s M = σ → q4_get lv 0 = some (.ref 99) → q4_get lv 1 = some (.int (l1)) → q4_get lv 2 = some (.int (l2)) → q4_get lv 4 = some (.long (l4)) → q4_get lv 6 = some (.long (l6)) → q4_get lv 8 = some (.int (l8)) → q4_get lv 9 = some (.long (s.2)) → q4_get lv 11 = some (.int (s.1)) → q4_run f 223 61 lv [] M 0 0 = some r → ∃ lv M, q4_run F 223 99 lv [] M 0 0 = some r ∧ qa_O M ∧ qa_s M = σ ∧ q4_get lv 0 = some (.ref 99) ∧ q4_get lv 1 = some (.int (l1)) ∧ q4_get lv 2 = some (.int (l2)) ∧ q4_get lv 4 = some (.long (l4)) ∧ q4_get lv 6 = some (.long (l6)) ∧ q4_get lv 8 = some (.int (l8)) ∧ q4_get lv 9 = some (.long ((qa_wh (fun s => s) (mc_223_99_p61 N l1 l2 l4 l6 l8 σ) n s).2)) := by
  intro f
  induction f with
  | zero => intro n _ _ s lv M hM es _ _ _ _ _ _ _ _ h; cases h
  | succ f ih =>
    intro n hn hF s lv M hM es g0 g1 g2 g4 g6 g8 g9 g11 h
    obtain ⟨n, rfl⟩ : ∃ n1, n = n1 + 1 := ⟨n - 1, by omega⟩
    replace hn : f ≤ n := Nat.le_of_succ_le_succ hn
    have hN := Nat.le_trans (Nat.le_of_succ_le hF) hN
    replace h := qa_iload (n := 11) (q := 63) (qa_d rfl h) rfl g11
    replace h := qa_aload (n := 0) (q := 64) (qa_e rfl h) rfl g0
    replace h := qa_gi (j := 5) (q := 67) (qa_e rfl h) rfl hM es rfl (by decide)
    by_cases c1 : s.1 < (σ 99 5)
    · replace h := qa_iff (q := 70) (qa_e rfl h) rfl (qa_F_ge c1)
      replace h := qa_lload (n := 9) (q := 72) (qa_e rfl h) rfl g9
      replace h := qa_iload (n := 8) (q := 74) (qa_e rfl h) rfl g8
      replace h := qa_iload (n := 11) (q := 76) (qa_e rfl h) rfl g11
      obtain ⟨M, h, hM, es⟩ := qa_c1 (y := 185) (as := [.int (l8), .int (s.1)]) (rest := [.long (s.2)]) (i := .invokestatic 185) (q := 79) (qa_e rfl h) (Or.inr rfl) rfl rfl (by decide) rfl (fun r hc => mb_185 hM es hc)
      obtain ⟨lv, M, h, hM, es, g0, g1, g2, g4, g6, g8, g11⟩ : ∃ lv M, q4_run f 223 90 lv [.long ((if (ma_185 l8 s.1) = (0 : Int32) then (1 : Int64) else ((l1 - (1 : Int32))).toInt64)), .long (s.2)] M 0 0 = some r ∧ qa_O M ∧ qa_s M = σ ∧ q4_get lv 0 = some (.ref 99) ∧ q4_get lv 1 = some (.int (l1)) ∧ q4_get lv 2 = some (.int (l2)) ∧ q4_get lv 4 = some (.long (l4)) ∧ q4_get lv 6 = some (.long (l6)) ∧ q4_get lv 8 = some (.int (l8)) ∧ q4_get lv 11 = some (.int (s.1)) := by
        by_cases c2 : (ma_185 l8 s.1) = (0 : Int32)
        · replace h := qa_ict (q := 89) (qa_e rfl h) rfl (qa_T_eq c2)
          replace h := qa_lpush (z := (1 : Int64)) (q := 90) (qa_e rfl h) rfl (by decide)
          exact ⟨lv, M, (qa_hl1 c2 h), hM, es, g0, g1, g2, g4, g6, g8, g11⟩
        · replace h := qa_icf (q := 82) (qa_e rfl h) rfl (qa_F_eq c2)
          replace h := qa_iload (n := 1) (q := 83) (qa_e rfl h) rfl g1
          replace h := qa_push (z := (1 : Int32)) (q := 84) (qa_e rfl h) rfl (by decide)
          replace h := qa_isub (q := 85) (qa_e rfl h) rfl
          replace h := qa_i2l (q := 86) (qa_e rfl h) rfl
          replace h := qa_goto (q := 90) (qa_e rfl h) rfl
          exact ⟨lv, M, (qa_hl0 c2 h), hM, es, g0, g1, g2, g4, g6, g8, g11⟩
      replace h := qa_lmul (q := 91) (qa_e rfl h) rfl
      obtain ⟨lv, h, g, T⟩ := qa_lstore (n := 9) (q := 93) (qa_e rfl h) rfl
      replace g0 := T _ _ g0 (by decide) (by decide) (Or.inr rfl)
      replace g1 := T _ _ g1 (by decide) (by decide) (Or.inr rfl)
      replace g2 := T _ _ g2 (by decide) (by decide) (Or.inr rfl)
      replace g4 := T _ _ g4 (by decide) (by decide) (Or.inl (by decide))
      replace g6 := T _ _ g6 (by decide) (by decide) (Or.inl (by decide))
      replace g8 := T _ _ g8 (by decide) (by decide) (Or.inr rfl)
      replace g11 := T _ _ g11 (by decide) (by decide) (Or.inr rfl)
      have g9 := g
      clear g T
      obtain ⟨lv, h, g, T⟩ := qa_iinc (n := 11) (z := (1 : Int32)) (q := 96) (qa_e rfl h) rfl (by decide) g11
      replace g0 := T _ _ g0 (by decide) (Or.inr rfl)
      replace g1 := T _ _ g1 (by decide) (Or.inr rfl)
      replace g2 := T _ _ g2 (by decide) (Or.inr rfl)
      replace g4 := T _ _ g4 (by decide) (Or.inl (by decide))
      replace g6 := T _ _ g6 (by decide) (Or.inl (by decide))
      replace g8 := T _ _ g8 (by decide) (Or.inr rfl)
      replace g9 := T _ _ g9 (by decide) (Or.inl (by decide))
      replace g11 := g
      clear g T
      replace h := qa_goto (q := 61) (qa_e rfl h) rfl
      have e0 : mc_223_99_p61 N l1 l2 l4 l6 l8 σ s = .inl ((s.1 + (1 : Int32)), (s.2 * (if (ma_185 l8 s.1) = (0 : Int32) then (1 : Int64) else ((l1 - (1 : Int32))).toInt64))) := by exact Eq.trans (if_pos c1) (rfl)
      rw [qa_whl e0]
      exact ih n hn (Nat.le_of_succ_le hF) ((s.1 + (1 : Int32)), (s.2 * (if (ma_185 l8 s.1) = (0 : Int32) then (1 : Int64) else ((l1 - (1 : Int32))).toInt64))) _ _ hM es g0 g1 g2 g4 g6 g8 g9 g11 h
    · replace h := qa_ift (q := 99) (qa_e rfl h) rfl (qa_T_ge c1)
      have e0 : mc_223_99_p61 N l1 l2 l4 l6 l8 σ s = .inr (s.1, s.2) := by exact Eq.trans (if_neg c1) (rfl)
      rw [qa_whr e0]
      exact ⟨_, _, q61_mono f F _ _ _ _ _ _ _ _ (Nat.le_of_succ_le hF) h, hM, es, g0, g1, g2, g4, g6, g8, g9⟩
noncomputable def mc_223_99_p46 (N : Nat) (l1 : Int32) (l2 : Int32) (l6 : Int64) (σ : qa_S) (s : Int32 × Int64) : (Int32 × Int64) ⊕ (Int32 × Int64) :=
  if (ma_190_99 σ) < s.1 then
    .inr (s.1, s.2)
  else
    qa_in ((qa_wh (fun s => s) (mc_223_99_p61 N l1 l2 s.2 l6 s.1 σ) N ((0 : Int32), (1 : Int64)))) fun r2 =>
    qa_in ((ma_211_99 N s.1 σ)) fun r3 =>
    .inl ((s.1 + (1 : Int32)), (s.2 + (if r3 = (0 : Int32) then (0 : Int64) else r2.2)))
theorem md_223_99_p46 {N F : Nat} {r : Option Value × q4_M} {l1 : Int32} {l2 : Int32} {l6 : Int64} {σ : qa_S} (hN : F ≤ N) : ∀ f n, f ≤ n → f ≤ F → ∀ (s : Int32 × Int64) (lv : List (Nat × Value)) (M : q4_M), qa_O M → qa_s M = σ → q4_get lv 0 = some (.ref 99) → q4_get lv 1 = some (.int (l1)) → q4_get lv 2 = some (.int (l2)) → q4_get lv 4 = some (.long (s.2)) → q4_get lv 6 = some (.long (l6)) → q4_get lv 8 = some (.int (s.1)) → q4_run f 223 46 lv [] M 0 0 = some r → ∃ lv M, q4_run F 223 125 lv [] M 0 0 = some r ∧ qa_O M ∧ qa_s M = σ ∧ q4_get lv 0 = some (.ref 99) ∧ q4_get lv 1 = some (.int (l1)) ∧ q4_get lv 2 = some (.int (l2)) ∧ q4_get lv 4 = some (.long ((qa_wh (fun s => s) (mc_223_99_p46 N l1 l2 l6 σ) n s).2)) ∧ q4_get lv 6 = some (.long (l6)) := by
  intro f
  induction f with
  | zero => intro n _ _ s lv M hM es _ _ _ _ _ _ h; cases h
  | succ f ih =>
    intro n hn hF s lv M hM es g0 g1 g2 g4 g6 g8 h
    obtain ⟨n, rfl⟩ : ∃ n1, n = n1 + 1 := ⟨n - 1, by omega⟩
    replace hn : f ≤ n := Nat.le_of_succ_le_succ hn
    have hN := Nat.le_trans (Nat.le_of_succ_le hF) hN
    replace h := qa_iload (n := 8) (q := 48) (qa_d rfl h) rfl g8
    replace h := qa_aload (n := 0) (q := 49) (qa_e rfl h) rfl g0
    obtain ⟨M, h, hM, es⟩ := qa_c1 (y := 190) (as := [.ref 99]) (rest := [.int (s.1)]) (i := .invokevirtual 190) (q := 52) (qa_e rfl h) (Or.inl rfl) rfl rfl (by decide) rfl (fun r hc => mb_190_99 hM es hc)
    by_cases c1 : (ma_190_99 σ) < s.1
    · replace h := qa_ift (q := 125) (qa_e rfl h) rfl (qa_T_gt c1)
      have e0 : mc_223_99_p46 N l1 l2 l6 σ s = .inr (s.1, s.2) := by exact Eq.trans (if_pos c1) (rfl)
      rw [qa_whr e0]
      exact ⟨_, _, q61_mono f F _ _ _ _ _ _ _ _ (Nat.le_of_succ_le hF) h, hM, es, g0, g1, g2, g4, g6⟩
    · replace h := qa_iff (q := 55) (qa_e rfl h) rfl (qa_F_gt c1)
      replace h := qa_lpush (z := (1 : Int64)) (q := 56) (qa_e rfl h) rfl (by decide)
      obtain ⟨lv, h, g, T⟩ := qa_lstore (n := 9) (q := 58) (qa_e rfl h) rfl
      replace g0 := T _ _ g0 (by decide) (by decide) (Or.inr rfl)
      replace g1 := T _ _ g1 (by decide) (by decide) (Or.inr rfl)
      replace g2 := T _ _ g2 (by decide) (by decide) (Or.inr rfl)
      replace g4 := T _ _ g4 (by decide) (by decide) (Or.inl (by decide))
      replace g6 := T _ _ g6 (by decide) (by decide) (Or.inl (by decide))
      replace g8 := T _ _ g8 (by decide) (by decide) (Or.inr rfl)
      have g9 := g
      clear g T
      replace h := qa_push (z := (0 : Int32)) (q := 59) (qa_e rfl h) rfl (by decide)
      obtain ⟨lv, h, g, T⟩ := qa_istore (n := 11) (q := 61) (qa_e rfl h) rfl
      replace g0 := T _ _ g0 (by decide) (Or.inr rfl)
      replace g1 := T _ _ g1 (by decide) (Or.inr rfl)
      replace g2 := T _ _ g2 (by decide) (Or.inr rfl)
      replace g4 := T _ _ g4 (by decide) (Or.inl (by decide))
      replace g6 := T _ _ g6 (by decide) (Or.inl (by decide))
      replace g8 := T _ _ g8 (by decide) (Or.inr rfl)
      replace g9 := T _ _ g9 (by decide) (Or.inl (by decide))
      have g11 := g
      clear g T
      obtain ⟨r2, er2⟩ : ∃ x, x = (qa_wh (fun s => s) (mc_223_99_p61 N l1 l2 s.2 l6 s.1 σ) N ((0 : Int32), (1 : Int64))) := ⟨_, rfl⟩
      have L := md_223_99_p61 (l1 := l1) (l2 := l2) (l4 := s.2) (l6 := l6) (l8 := s.1) (σ := σ) (F := f) (N := N) (r := r) hN f N hN (Nat.le_refl f) ((0 : Int32), (1 : Int64)) _ _ hM es g0 g1 g2 g4 g6 g8 g9 g11 h
      rw [← er2] at L
      obtain ⟨lv, M, h, hM, es, g0, g1, g2, g4, g6, g8, g9⟩ := L
      replace h := qa_lload (n := 4) (q := 101) (qa_e rfl h) rfl g4
      replace h := qa_aload (n := 0) (q := 102) (qa_e rfl h) rfl g0
      replace h := qa_iload (n := 8) (q := 104) (qa_e rfl h) rfl g8
      obtain ⟨r3, er3⟩ : ∃ x, x = (ma_211_99 N s.1 σ) := ⟨_, rfl⟩
      obtain ⟨M, h, hM, es⟩ := qa_c1 (y := 211) (as := [.ref 99, .int (s.1)]) (rest := [.long (s.2)]) (i := .invokevirtual 211) (q := 107) (qa_e rfl h) (Or.inl rfl) rfl rfl (by decide) rfl (fun r hc => mb_211_99 hN hM es hc)
      rw [← er3] at h
      obtain ⟨lv, M, h, hM, es, g0, g1, g2, g6, g8⟩ : ∃ lv M, q4_run f 223 116 lv [.long ((if r3 = (0 : Int32) then (0 : Int64) else r2.2)), .long (s.2)] M 0 0 = some r ∧ qa_O M ∧ qa_s M = σ ∧ q4_get lv 0 = some (.ref 99) ∧ q4_get lv 1 = some (.int (l1)) ∧ q4_get lv 2 = some (.int (l2)) ∧ q4_get lv 6 = some (.long (l6)) ∧ q4_get lv 8 = some (.int (s.1)) := by
        by_cases c4 : r3 = (0 : Int32)
        · replace h := qa_ict (q := 115) (qa_e rfl h) rfl (qa_T_eq c4)
          replace h := qa_lpush (z := (0 : Int64)) (q := 116) (qa_e rfl h) rfl (by decide)
          exact ⟨lv, M, (qa_hl1 c4 h), hM, es, g0, g1, g2, g6, g8⟩
        · replace h := qa_icf (q := 110) (qa_e rfl h) rfl (qa_F_eq c4)
          replace h := qa_lload (n := 9) (q := 112) (qa_e rfl h) rfl g9
          replace h := qa_goto (q := 116) (qa_e rfl h) rfl
          exact ⟨lv, M, (qa_hl0 c4 h), hM, es, g0, g1, g2, g6, g8⟩
      replace h := qa_ladd (q := 117) (qa_e rfl h) rfl
      obtain ⟨lv, h, g, T⟩ := qa_lstore (n := 4) (q := 119) (qa_e rfl h) rfl
      replace g0 := T _ _ g0 (by decide) (by decide) (Or.inr rfl)
      replace g1 := T _ _ g1 (by decide) (by decide) (Or.inr rfl)
      replace g2 := T _ _ g2 (by decide) (by decide) (Or.inr rfl)
      replace g6 := T _ _ g6 (by decide) (by decide) (Or.inl (by decide))
      replace g8 := T _ _ g8 (by decide) (by decide) (Or.inr rfl)
      have g4 := g
      clear g T
      obtain ⟨lv, h, g, T⟩ := qa_iinc (n := 8) (z := (1 : Int32)) (q := 122) (qa_e rfl h) rfl (by decide) g8
      replace g0 := T _ _ g0 (by decide) (Or.inr rfl)
      replace g1 := T _ _ g1 (by decide) (Or.inr rfl)
      replace g2 := T _ _ g2 (by decide) (Or.inr rfl)
      replace g4 := T _ _ g4 (by decide) (Or.inl (by decide))
      replace g6 := T _ _ g6 (by decide) (Or.inl (by decide))
      replace g8 := g
      clear g T
      replace h := qa_goto (q := 46) (qa_e rfl h) rfl
      have e0 : mc_223_99_p46 N l1 l2 l6 σ s = .inl ((s.1 + (1 : Int32)), (s.2 + (if r3 = (0 : Int32) then (0 : Int64) else r2.2))) := by exact Eq.trans (if_neg c1) (Eq.trans (qa_ie er2) (Eq.trans (qa_ie er3) (rfl)))
      rw [qa_whl e0]
      exact ih n hn (Nat.le_of_succ_le hF) ((s.1 + (1 : Int32)), (s.2 + (if r3 = (0 : Int32) then (0 : Int64) else r2.2))) _ _ hM es g0 g1 g2 g4 g6 g8 h
noncomputable def mc_223_99_p128 (N : Nat) (l1 : Int32) (l2 : Int32) (l4 : Int64) (σ : qa_S) (s : Int32 × Int64) : (Int32 × Int64) ⊕ (Int32 × Int64) :=
  if s.1 < (σ 99 5) then
    .inl ((s.1 + (1 : Int32)), (s.2 * (l1).toInt64))
  else
    .inr (s.1, s.2)
theorem md_223_99_p128 {N F : Nat} {r : Option Value × q4_M} {l1 : Int32} {l2 : Int32} {l4 : Int64} {σ : qa_S} (hN : F ≤ N) : ∀ f n, f ≤ n → f ≤ F → ∀ (s : Int32 × Int64) (lv : List (Nat × Value)) (M : q4_M), qa_O M → qa_s M = σ → q4_get lv 0 = some (.ref 99) → q4_get lv 1 = some (.int (l1)) → q4_get lv 2 = some (.int (l2)) → q4_get lv 4 = some (.long (l4)) → q4_get lv 6 = some (.long (s.2)) → q4_get lv 8 = some (.int (s.1)) → q4_run f 223 128 lv [] M 0 0 = some r → ∃ lv M, q4_run F 223 150 lv [] M 0 0 = some r ∧ qa_O M ∧ qa_s M = σ ∧ q4_get lv 2 = some (.int (l2)) ∧ q4_get lv 4 = some (.long (l4)) ∧ q4_get lv 6 = some (.long ((qa_wh (fun s => s) (mc_223_99_p128 N l1 l2 l4 σ) n s).2)) := by
  intro f
  induction f with
  | zero => intro n _ _ s lv M hM es _ _ _ _ _ _ h; cases h
  | succ f ih =>
    intro n hn hF s lv M hM es g0 g1 g2 g4 g6 g8 h
    obtain ⟨n, rfl⟩ : ∃ n1, n = n1 + 1 := ⟨n - 1, by omega⟩
    replace hn : f ≤ n := Nat.le_of_succ_le_succ hn
    have hN := Nat.le_trans (Nat.le_of_succ_le hF) hN
    replace h := qa_iload (n := 8) (q := 130) (qa_d rfl h) rfl g8
    replace h := qa_aload (n := 0) (q := 131) (qa_e rfl h) rfl g0
    replace h := qa_gi (j := 5) (q := 134) (qa_e rfl h) rfl hM es rfl (by decide)
    by_cases c1 : s.1 < (σ 99 5)
    · replace h := qa_iff (q := 137) (qa_e rfl h) rfl (qa_F_ge c1)
      replace h := qa_lload (n := 6) (q := 139) (qa_e rfl h) rfl g6
      replace h := qa_iload (n := 1) (q := 140) (qa_e rfl h) rfl g1
      replace h := qa_i2l (q := 141) (qa_e rfl h) rfl
      replace h := qa_lmul (q := 142) (qa_e rfl h) rfl
      obtain ⟨lv, h, g, T⟩ := qa_lstore (n := 6) (q := 144) (qa_e rfl h) rfl
      replace g0 := T _ _ g0 (by decide) (by decide) (Or.inr rfl)
      replace g1 := T _ _ g1 (by decide) (by decide) (Or.inr rfl)
      replace g2 := T _ _ g2 (by decide) (by decide) (Or.inr rfl)
      replace g4 := T _ _ g4 (by decide) (by decide) (Or.inl (by decide))
      replace g8 := T _ _ g8 (by decide) (by decide) (Or.inr rfl)
      have g6 := g
      clear g T
      obtain ⟨lv, h, g, T⟩ := qa_iinc (n := 8) (z := (1 : Int32)) (q := 147) (qa_e rfl h) rfl (by decide) g8
      replace g0 := T _ _ g0 (by decide) (Or.inr rfl)
      replace g1 := T _ _ g1 (by decide) (Or.inr rfl)
      replace g2 := T _ _ g2 (by decide) (Or.inr rfl)
      replace g4 := T _ _ g4 (by decide) (Or.inl (by decide))
      replace g6 := T _ _ g6 (by decide) (Or.inl (by decide))
      replace g8 := g
      clear g T
      replace h := qa_goto (q := 128) (qa_e rfl h) rfl
      have e0 : mc_223_99_p128 N l1 l2 l4 σ s = .inl ((s.1 + (1 : Int32)), (s.2 * (l1).toInt64)) := by exact Eq.trans (if_pos c1) (rfl)
      rw [qa_whl e0]
      exact ih n hn (Nat.le_of_succ_le hF) ((s.1 + (1 : Int32)), (s.2 * (l1).toInt64)) _ _ hM es g0 g1 g2 g4 g6 g8 h
    · replace h := qa_ift (q := 150) (qa_e rfl h) rfl (qa_T_ge c1)
      have e0 : mc_223_99_p128 N l1 l2 l4 σ s = .inr (s.1, s.2) := by exact Eq.trans (if_neg c1) (rfl)
      rw [qa_whr e0]
      exact ⟨_, _, q61_mono f F _ _ _ _ _ _ _ _ (Nat.le_of_succ_le hF) h, hM, es, g2, g4, g6⟩
/-- BuriedBySevensModel, onions, (II)J -/
noncomputable def ma_223_99 (N : Nat) (a1 : Int32) (a2 : Int32) (σ : qa_S) : Int64 × qa_S :=
  qa_in (qa_u σ 99 9 (0 : Int32)) fun m1 =>
  if (ma_201 (ma_175 a1 (2 : Int32) (20 : Int32)) a2 (1 : Int32)) < (0 : Int32) then
    qa_in ((ma_152_99 (ma_201 (ma_175 a1 (2 : Int32) (20 : Int32)) a2 (1 : Int32)) m1)) fun r3 =>
    (((4000000000000000000 : Int64) - (r3.1).toInt64), r3.2)
  else
    qa_in ((ma_181_99 N m1)) fun m4 =>
    qa_in ((qa_wh (fun s => s) (mc_223_99_p46 N a1 a2 (1 : Int64) m4) N ((0 : Int32), (0 : Int64)))) fun r5 =>
    qa_in ((qa_wh (fun s => s) (mc_223_99_p128 N a1 a2 r5.2 m4) N ((0 : Int32), (1 : Int64)))) fun r6 =>
    qa_in ((ma_203 N r5.2 r6.2 a2)) fun r7 =>
    (r7, m4)
theorem mb_223_99 {f N : Nat} (hN : f ≤ N) {M : q4_M} {r : Option Value × q4_M} {σ : qa_S} {a1 : Int32} {a2 : Int32} (hM : qa_O M) (es : qa_s M = σ) (h : q4_run f 223 0 (lv_args 0 [.ref 99, .int (a1), .int (a2)]) [] M 0 0 = some r) : r.1 = some (.long ((ma_223_99 N a1 a2 σ).1)) ∧ qa_O r.2 ∧ qa_s r.2 = (ma_223_99 N a1 a2 σ).2 := by
  obtain ⟨lv, el⟩ : ∃ l, l = lv_args 0 [.ref 99, .int (a1), .int (a2)] := ⟨_, rfl⟩
  have g0 : q4_get lv 0 = some (.ref 99) := by rw [el]; rfl
  have g1 : q4_get lv 1 = some (.int (a1)) := by rw [el]; rfl
  have g2 : q4_get lv 2 = some (.int (a2)) := by rw [el]; rfl
  rw [← el] at h
  clear el
  replace h := qa_aload (n := 0) (q := 1) (qa_e rfl h) rfl g0
  replace h := qa_push (z := (0 : Int32)) (q := 2) (qa_e rfl h) rfl (by decide)
  obtain ⟨m1, em1⟩ : ∃ x, x = qa_u σ 99 9 (0 : Int32) := ⟨_, rfl⟩
  obtain ⟨M, h, hM, es⟩ := qa_pf (j := 9) (q := 5) (qa_e rfl h) rfl hM es rfl (by decide)
  rw [← em1] at es
  replace h := qa_iload (n := 1) (q := 6) (qa_e rfl h) rfl g1
  replace h := qa_push (z := (2 : Int32)) (q := 7) (qa_e rfl h) rfl (by decide)
  replace h := qa_push (z := (20 : Int32)) (q := 9) (qa_e rfl h) rfl (by decide)
  obtain ⟨M, h, hM, es⟩ := qa_c1 (y := 175) (as := [.int (a1), .int ((2 : Int32)), .int ((20 : Int32))]) (rest := []) (i := .invokestatic 175) (q := 12) (qa_e rfl h) (Or.inr rfl) rfl rfl (by decide) rfl (fun r hc => mb_175 hM es hc)
  replace h := qa_iload (n := 2) (q := 13) (qa_e rfl h) rfl g2
  replace h := qa_push (z := (1 : Int32)) (q := 14) (qa_e rfl h) rfl (by decide)
  obtain ⟨M, h, hM, es⟩ := qa_c1 (y := 201) (as := [.int ((ma_175 a1 (2 : Int32) (20 : Int32))), .int (a2), .int ((1 : Int32))]) (rest := []) (i := .invokestatic 201) (q := 17) (qa_e rfl h) (Or.inr rfl) rfl rfl (by decide) rfl (fun r hc => mb_201 hM es hc)
  obtain ⟨lv, h, g, T⟩ := qa_istore (n := 3) (q := 18) (qa_e rfl h) rfl
  replace g0 := T _ _ g0 (by decide) (Or.inr rfl)
  replace g1 := T _ _ g1 (by decide) (Or.inr rfl)
  replace g2 := T _ _ g2 (by decide) (Or.inr rfl)
  have g3 := g
  clear g T
  replace h := qa_iload (n := 3) (q := 19) (qa_e rfl h) rfl g3
  by_cases c2 : (ma_201 (ma_175 a1 (2 : Int32) (20 : Int32)) a2 (1 : Int32)) < (0 : Int32)
  · replace h := qa_icf (q := 22) (qa_e rfl h) rfl (qa_F_ge c2)
    replace h := qa_lpush (z := (4000000000000000000 : Int64)) (q := 25) (qa_e rfl h) rfl (by decide)
    replace h := qa_aload (n := 0) (q := 26) (qa_e rfl h) rfl g0
    replace h := qa_iload (n := 3) (q := 27) (qa_e rfl h) rfl g3
    obtain ⟨r3, er3⟩ : ∃ x, x = (ma_152_99 (ma_201 (ma_175 a1 (2 : Int32) (20 : Int32)) a2 (1 : Int32)) m1) := ⟨_, rfl⟩
    obtain ⟨M, h, hM, es⟩ := qa_c1 (y := 152) (as := [.ref 99, .int ((ma_201 (ma_175 a1 (2 : Int32) (20 : Int32)) a2 (1 : Int32)))]) (rest := [.long ((4000000000000000000 : Int64))]) (i := .invokevirtual 152) (q := 30) (qa_e rfl h) (Or.inl rfl) rfl rfl (by decide) rfl (fun r hc => mb_152_99 hM es hc)
    rw [← er3] at h es
    replace h := qa_i2l (q := 31) (qa_e rfl h) rfl
    replace h := qa_lsub (q := 32) (qa_e rfl h) rfl
    have er := qa_rl (qa_e rfl h)
    subst er
    have e0 : ma_223_99 N a1 a2 σ = (((4000000000000000000 : Int64) - (r3.1).toInt64), r3.2) := by exact Eq.trans (qa_ie em1) (Eq.trans (if_pos c2) (Eq.trans (qa_ie er3) (rfl)))
    rw [e0]
    exact ⟨rfl, hM, es⟩
  · replace h := qa_ict (q := 33) (qa_e rfl h) rfl (qa_T_ge c2)
    replace h := qa_aload (n := 0) (q := 34) (qa_e rfl h) rfl g0
    obtain ⟨m4, em4⟩ : ∃ x, x = (ma_181_99 N m1) := ⟨_, rfl⟩
    obtain ⟨M, h, hM, es⟩ := qa_c0 (y := 181) (as := [.ref 99]) (rest := []) (i := .invokevirtual 181) (q := 37) (qa_e rfl h) (Or.inl rfl) rfl rfl (by decide) rfl (fun r hc => mb_181_99 hN hM es hc)
    rw [← em4] at es
    replace h := qa_lpush (z := (0 : Int64)) (q := 38) (qa_e rfl h) rfl (by decide)
    obtain ⟨lv, h, g, T⟩ := qa_lstore (n := 4) (q := 40) (qa_e rfl h) rfl
    replace g0 := T _ _ g0 (by decide) (by decide) (Or.inr rfl)
    replace g1 := T _ _ g1 (by decide) (by decide) (Or.inr rfl)
    replace g2 := T _ _ g2 (by decide) (by decide) (Or.inr rfl)
    have g4 := g
    clear g T
    replace h := qa_lpush (z := (1 : Int64)) (q := 41) (qa_e rfl h) rfl (by decide)
    obtain ⟨lv, h, g, T⟩ := qa_lstore (n := 6) (q := 43) (qa_e rfl h) rfl
    replace g0 := T _ _ g0 (by decide) (by decide) (Or.inr rfl)
    replace g1 := T _ _ g1 (by decide) (by decide) (Or.inr rfl)
    replace g2 := T _ _ g2 (by decide) (by decide) (Or.inr rfl)
    replace g4 := T _ _ g4 (by decide) (by decide) (Or.inl (by decide))
    have g6 := g
    clear g T
    replace h := qa_push (z := (0 : Int32)) (q := 44) (qa_e rfl h) rfl (by decide)
    obtain ⟨lv, h, g, T⟩ := qa_istore (n := 8) (q := 46) (qa_e rfl h) rfl
    replace g0 := T _ _ g0 (by decide) (Or.inr rfl)
    replace g1 := T _ _ g1 (by decide) (Or.inr rfl)
    replace g2 := T _ _ g2 (by decide) (Or.inr rfl)
    replace g4 := T _ _ g4 (by decide) (Or.inl (by decide))
    replace g6 := T _ _ g6 (by decide) (Or.inl (by decide))
    have g8 := g
    clear g T
    obtain ⟨r5, er5⟩ : ∃ x, x = (qa_wh (fun s => s) (mc_223_99_p46 N a1 a2 (1 : Int64) m4) N ((0 : Int32), (0 : Int64))) := ⟨_, rfl⟩
    have L := md_223_99_p46 (l1 := a1) (l2 := a2) (l6 := (1 : Int64)) (σ := m4) (F := f) (N := N) (r := r) hN f N hN (Nat.le_refl f) ((0 : Int32), (0 : Int64)) _ _ hM es g0 g1 g2 g4 g6 g8 h
    rw [← er5] at L
    obtain ⟨lv, M, h, hM, es, g0, g1, g2, g4, g6⟩ := L
    replace h := qa_push (z := (0 : Int32)) (q := 126) (qa_e rfl h) rfl (by decide)
    obtain ⟨lv, h, g, T⟩ := qa_istore (n := 8) (q := 128) (qa_e rfl h) rfl
    replace g0 := T _ _ g0 (by decide) (Or.inr rfl)
    replace g1 := T _ _ g1 (by decide) (Or.inr rfl)
    replace g2 := T _ _ g2 (by decide) (Or.inr rfl)
    replace g4 := T _ _ g4 (by decide) (Or.inl (by decide))
    replace g6 := T _ _ g6 (by decide) (Or.inl (by decide))
    have g8 := g
    clear g T
    obtain ⟨r6, er6⟩ : ∃ x, x = (qa_wh (fun s => s) (mc_223_99_p128 N a1 a2 r5.2 m4) N ((0 : Int32), (1 : Int64))) := ⟨_, rfl⟩
    have L := md_223_99_p128 (l1 := a1) (l2 := a2) (l4 := r5.2) (σ := m4) (F := f) (N := N) (r := r) hN f N hN (Nat.le_refl f) ((0 : Int32), (1 : Int64)) _ _ hM es g0 g1 g2 g4 g6 g8 h
    rw [← er6] at L
    obtain ⟨lv, M, h, hM, es, g2, g4, g6⟩ := L
    replace h := qa_lload (n := 4) (q := 152) (qa_e rfl h) rfl g4
    replace h := qa_lload (n := 6) (q := 154) (qa_e rfl h) rfl g6
    replace h := qa_iload (n := 2) (q := 155) (qa_e rfl h) rfl g2
    obtain ⟨r7, er7⟩ : ∃ x, x = (ma_203 N r5.2 r6.2 a2) := ⟨_, rfl⟩
    obtain ⟨M, h, hM, es⟩ := qa_c1 (y := 203) (as := [.long (r5.2), .long (r6.2), .int (a2)]) (rest := []) (i := .invokestatic 203) (q := 158) (qa_e rfl h) (Or.inr rfl) rfl rfl (by decide) rfl (fun r hc => mb_203 hN hM es hc)
    rw [← er7] at h
    have er := qa_rl (qa_e rfl h)
    subst er
    have e0 : ma_223_99 N a1 a2 σ = (r7, m4) := by exact Eq.trans (qa_ie em1) (Eq.trans (if_neg c2) (Eq.trans (qa_ie em4) (Eq.trans (qa_ie er5) (Eq.trans (qa_ie er6) (Eq.trans (qa_ie er7) (rfl))))))
    rw [e0]
    exact ⟨rfl, hM, es⟩
noncomputable def mc_224_99_p40 (N : Nat) (l1 : Int32) (σ : qa_S) (s : Int32 × Int32) : (Int32 × Int32) ⊕ (Int32 × Int32) :=
  if s.1 < (σ 99 35) then
    .inl ((s.1 + (1 : Int32)), (if s.2 = (0 : Int32) then (if (9 : Int32) < (σ 122 s.1.toNatClampNeg) then (-3 : Int32) else s.2) else s.2))
  else
    .inr (s.1, s.2)
theorem md_224_99_p40 {N F : Nat} {r : Option Value × q4_M} {l1 : Int32} {σ : qa_S} (hN : F ≤ N) : ∀ f n, f ≤ n → f ≤ F → ∀ (s : Int32 × Int32) (lv : List (Nat × Value)) (M : q4_M), qa_O M → qa_s M = σ → q4_get lv 0 = some (.ref 99) → q4_get lv 1 = some (.int (l1)) → q4_get lv 2 = some (.int (s.2)) → q4_get lv 3 = some (.int (s.1)) → q4_run f 224 40 lv [] M 0 0 = some r → ∃ lv M, q4_run F 224 76 lv [] M 0 0 = some r ∧ qa_O M ∧ qa_s M = σ ∧ q4_get lv 0 = some (.ref 99) ∧ q4_get lv 1 = some (.int (l1)) ∧ q4_get lv 2 = some (.int ((qa_wh (fun s => s) (mc_224_99_p40 N l1 σ) n s).2)) := by
  intro f
  induction f with
  | zero => intro n _ _ s lv M hM es _ _ _ _ h; cases h
  | succ f ih =>
    intro n hn hF s lv M hM es g0 g1 g2 g3 h
    obtain ⟨n, rfl⟩ : ∃ n1, n = n1 + 1 := ⟨n - 1, by omega⟩
    replace hn : f ≤ n := Nat.le_of_succ_le_succ hn
    have hN := Nat.le_trans (Nat.le_of_succ_le hF) hN
    replace h := qa_iload (n := 3) (q := 41) (qa_d rfl h) rfl g3
    replace h := qa_aload (n := 0) (q := 42) (qa_e rfl h) rfl g0
    replace h := qa_gi (j := 35) (q := 45) (qa_e rfl h) rfl hM es rfl (by decide)
    by_cases c1 : s.1 < (σ 99 35)
    · replace h := qa_iff (q := 48) (qa_e rfl h) rfl (qa_F_ge c1)
      replace h := qa_iload (n := 2) (q := 49) (qa_e rfl h) rfl g2
      obtain ⟨lv, M, h, hM, es, g0, g1, g3⟩ : ∃ lv M, q4_run f 224 69 lv [.int ((if s.2 = (0 : Int32) then (if (9 : Int32) < (σ 122 s.1.toNatClampNeg) then (-3 : Int32) else s.2) else s.2))] M 0 0 = some r ∧ qa_O M ∧ qa_s M = σ ∧ q4_get lv 0 = some (.ref 99) ∧ q4_get lv 1 = some (.int (l1)) ∧ q4_get lv 3 = some (.int (s.1)) := by
        by_cases c2 : s.2 = (0 : Int32)
        · replace h := qa_icf (q := 52) (qa_e rfl h) rfl (qa_F_ne c2)
          replace h := qa_aload (n := 0) (q := 53) (qa_e rfl h) rfl g0
          replace h := qa_gr (b := 122) (j := 34) (q := 56) (qa_e rfl h) rfl hM rfl (by decide)
          replace h := qa_iload (n := 3) (q := 57) (qa_e rfl h) rfl g3
          replace h := qa_iaload (jn := s.1.toNatClampNeg) (q := 58) (qa_e rfl h) rfl hM es rfl
          replace h := qa_push (z := (9 : Int32)) (q := 60) (qa_e rfl h) rfl (by decide)
          obtain ⟨lv, M, h, hM, es, g0, g1, g3⟩ : ∃ lv M, q4_run f 224 69 lv [.int ((if (9 : Int32) < (σ 122 s.1.toNatClampNeg) then (-3 : Int32) else s.2))] M 0 0 = some r ∧ qa_O M ∧ qa_s M = σ ∧ q4_get lv 0 = some (.ref 99) ∧ q4_get lv 1 = some (.int (l1)) ∧ q4_get lv 3 = some (.int (s.1)) := by
            by_cases c3 : (9 : Int32) < (σ 122 s.1.toNatClampNeg)
            · replace h := qa_iff (q := 63) (qa_e rfl h) rfl (qa_F_le c3)
              replace h := qa_push (z := (-3 : Int32)) (q := 65) (qa_e rfl h) rfl (by decide)
              replace h := qa_goto (q := 69) (qa_e rfl h) rfl
              exact ⟨lv, M, (qa_hi1 c3 h), hM, es, g0, g1, g3⟩
            · replace h := qa_ift (q := 68) (qa_e rfl h) rfl (qa_T_le c3)
              replace h := qa_iload (n := 2) (q := 69) (qa_e rfl h) rfl g2
              exact ⟨lv, M, (qa_hi0 c3 h), hM, es, g0, g1, g3⟩
          exact ⟨lv, M, (qa_hi1 c2 h), hM, es, g0, g1, g3⟩
        · replace h := qa_ict (q := 68) (qa_e rfl h) rfl (qa_T_ne c2)
          replace h := qa_iload (n := 2) (q := 69) (qa_e rfl h) rfl g2
          exact ⟨lv, M, (qa_hi0 c2 h), hM, es, g0, g1, g3⟩
      obtain ⟨lv, h, g, T⟩ := qa_istore (n := 2) (q := 70) (qa_e rfl h) rfl
      replace g0 := T _ _ g0 (by decide) (Or.inr rfl)
      replace g1 := T _ _ g1 (by decide) (Or.inr rfl)
      replace g3 := T _ _ g3 (by decide) (Or.inr rfl)
      have g2 := g
      clear g T
      obtain ⟨lv, h, g, T⟩ := qa_iinc (n := 3) (z := (1 : Int32)) (q := 73) (qa_e rfl h) rfl (by decide) g3
      replace g0 := T _ _ g0 (by decide) (Or.inr rfl)
      replace g1 := T _ _ g1 (by decide) (Or.inr rfl)
      replace g2 := T _ _ g2 (by decide) (Or.inr rfl)
      replace g3 := g
      clear g T
      replace h := qa_goto (q := 40) (qa_e rfl h) rfl
      have e0 : mc_224_99_p40 N l1 σ s = .inl ((s.1 + (1 : Int32)), (if s.2 = (0 : Int32) then (if (9 : Int32) < (σ 122 s.1.toNatClampNeg) then (-3 : Int32) else s.2) else s.2)) := by exact Eq.trans (if_pos c1) (rfl)
      rw [qa_whl e0]
      exact ih n hn (Nat.le_of_succ_le hF) ((s.1 + (1 : Int32)), (if s.2 = (0 : Int32) then (if (9 : Int32) < (σ 122 s.1.toNatClampNeg) then (-3 : Int32) else s.2) else s.2)) _ _ hM es g0 g1 g2 g3 h
    · replace h := qa_ift (q := 76) (qa_e rfl h) rfl (qa_T_ge c1)
      have e0 : mc_224_99_p40 N l1 σ s = .inr (s.1, s.2) := by exact Eq.trans (if_neg c1) (rfl)
      rw [qa_whr e0]
      exact ⟨_, _, q61_mono f F _ _ _ _ _ _ _ _ (Nat.le_of_succ_le hF) h, hM, es, g0, g1, g2⟩
noncomputable def mc_224_99_p92 (N : Nat) (l1 : Int32) (s : Int32 × qa_S) : (Int32 × qa_S) ⊕ (Int32 × qa_S) :=
  if s.1 < (s.2 99 0) then
    qa_in (qa_u s.2 110 s.1.toNatClampNeg (s.2 122 s.1.toNatClampNeg)) fun m2 =>
    .inl ((s.1 + (1 : Int32)), m2)
  else
    .inr (s.1, s.2)
theorem md_224_99_p92 {N F : Nat} {r : Option Value × q4_M} {l1 : Int32} (hN : F ≤ N) : ∀ f n, f ≤ n → f ≤ F → ∀ (s : Int32 × qa_S) (lv : List (Nat × Value)) (M : q4_M), qa_O M → qa_s M = s.2 → q4_get lv 0 = some (.ref 99) → q4_get lv 1 = some (.int (l1)) → q4_get lv 3 = some (.int (s.1)) → q4_run f 224 92 lv [] M 0 0 = some r → ∃ lv M, q4_run F 224 118 lv [] M 0 0 = some r ∧ qa_O M ∧ qa_s M = (qa_wh (fun s => s) (mc_224_99_p92 N l1) n s).2 ∧ q4_get lv 0 = some (.ref 99) ∧ q4_get lv 1 = some (.int (l1)) := by
  intro f
  induction f with
  | zero => intro n _ _ s lv M hM es _ _ _ h; cases h
  | succ f ih =>
    intro n hn hF s lv M hM es g0 g1 g3 h
    obtain ⟨n, rfl⟩ : ∃ n1, n = n1 + 1 := ⟨n - 1, by omega⟩
    replace hn : f ≤ n := Nat.le_of_succ_le_succ hn
    have hN := Nat.le_trans (Nat.le_of_succ_le hF) hN
    replace h := qa_iload (n := 3) (q := 93) (qa_d rfl h) rfl g3
    replace h := qa_aload (n := 0) (q := 94) (qa_e rfl h) rfl g0
    replace h := qa_gi (j := 0) (q := 97) (qa_e rfl h) rfl hM es rfl (by decide)
    by_cases c1 : s.1 < (s.2 99 0)
    · replace h := qa_iff (q := 100) (qa_e rfl h) rfl (qa_F_ge c1)
      replace h := qa_aload (n := 0) (q := 101) (qa_e rfl h) rfl g0
      replace h := qa_gr (b := 110) (j := 13) (q := 104) (qa_e rfl h) rfl hM rfl (by decide)
      replace h := qa_iload (n := 3) (q := 105) (qa_e rfl h) rfl g3
      replace h := qa_aload (n := 0) (q := 106) (qa_e rfl h) rfl g0
      replace h := qa_gr (b := 122) (j := 34) (q := 109) (qa_e rfl h) rfl hM rfl (by decide)
      replace h := qa_iload (n := 3) (q := 110) (qa_e rfl h) rfl g3
      replace h := qa_iaload (jn := s.1.toNatClampNeg) (q := 111) (qa_e rfl h) rfl hM es rfl
      obtain ⟨m2, em2⟩ : ∃ x, x = qa_u s.2 110 s.1.toNatClampNeg (s.2 122 s.1.toNatClampNeg) := ⟨_, rfl⟩
      obtain ⟨M, h, hM, es⟩ := qa_iastore (jn := s.1.toNatClampNeg) (q := 112) (qa_e rfl h) rfl hM es rfl
      rw [← em2] at es
      obtain ⟨lv, h, g, T⟩ := qa_iinc (n := 3) (z := (1 : Int32)) (q := 115) (qa_e rfl h) rfl (by decide) g3
      replace g0 := T _ _ g0 (by decide) (Or.inr rfl)
      replace g1 := T _ _ g1 (by decide) (Or.inr rfl)
      replace g3 := g
      clear g T
      replace h := qa_goto (q := 92) (qa_e rfl h) rfl
      have e0 : mc_224_99_p92 N l1 s = .inl ((s.1 + (1 : Int32)), m2) := by exact Eq.trans (if_pos c1) (Eq.trans (qa_ie em2) (rfl))
      rw [qa_whl e0]
      exact ih n hn (Nat.le_of_succ_le hF) ((s.1 + (1 : Int32)), m2) _ _ hM es g0 g1 g3 h
    · replace h := qa_ift (q := 118) (qa_e rfl h) rfl (qa_T_ge c1)
      have e0 : mc_224_99_p92 N l1 s = .inr (s.1, s.2) := by exact Eq.trans (if_neg c1) (rfl)
      rw [qa_whr e0]
      exact ⟨_, _, q61_mono f F _ _ _ _ _ _ _ _ (Nat.le_of_succ_le hF) h, hM, es, g0, g1⟩
noncomputable def mc_224_99_p142 (N : Nat) (l1 : Int32) (l5 : Int32) (σ : qa_S) (s : Int32 × Int32 × Int32) : (Int32 × Int32 × Int32) ⊕ (Int32 × Int32 × Int32) :=
  if s.1 < (4 : Int32) then
    .inl ((s.1 + (1 : Int32)), (s.2.1 ||| (if (if (ma_185 (σ 104 l5.toNatClampNeg) s.1) = (0 : Int32) then (0 : Int32) else (if (ma_186_99 l5 (σ 111 s.1.toNatClampNeg) σ) = (ma_186_99 l5 (σ 109 s.1.toNatClampNeg) σ) then (0 : Int32) else (1 : Int32))) = (0 : Int32) then (0 : Int32) else ((1 : Int32) <<< (l5 &&& 31)))), (s.2.2 ||| (if (if (ma_185 (σ 104 l5.toNatClampNeg) s.1) = (0 : Int32) then (0 : Int32) else (if (ma_186_99 l5 (σ 111 s.1.toNatClampNeg) σ) = (ma_186_99 l5 (σ 109 s.1.toNatClampNeg) σ) then (0 : Int32) else (1 : Int32))) = (0 : Int32) then (0 : Int32) else ((1 : Int32) <<< (s.1 &&& 31)))))
  else
    .inr (s.1, s.2.1, s.2.2)
theorem md_224_99_p142 {N F : Nat} {r : Option Value × q4_M} {l1 : Int32} {l5 : Int32} {σ : qa_S} (hN : F ≤ N) : ∀ f n, f ≤ n → f ≤ F → ∀ (s : Int32 × Int32 × Int32) (lv : List (Nat × Value)) (M : q4_M), qa_O M → qa_s M = σ → q4_get lv 0 = some (.ref 99) → q4_get lv 1 = some (.int (l1)) → q4_get lv 3 = some (.int (s.2.1)) → q4_get lv 4 = some (.int (s.2.2)) → q4_get lv 5 = some (.int (l5)) → q4_get lv 6 = some (.int (s.1)) → q4_run f 224 142 lv [] M 0 0 = some r → ∃ lv M, q4_run F 224 239 lv [] M 0 0 = some r ∧ qa_O M ∧ qa_s M = σ ∧ q4_get lv 0 = some (.ref 99) ∧ q4_get lv 1 = some (.int (l1)) ∧ q4_get lv 3 = some (.int ((qa_wh (fun s => s) (mc_224_99_p142 N l1 l5 σ) n s).2.1)) ∧ q4_get lv 4 = some (.int ((qa_wh (fun s => s) (mc_224_99_p142 N l1 l5 σ) n s).2.2)) ∧ q4_get lv 5 = some (.int (l5)) := by
  intro f
  induction f with
  | zero => intro n _ _ s lv M hM es _ _ _ _ _ _ h; cases h
  | succ f ih =>
    intro n hn hF s lv M hM es g0 g1 g3 g4 g5 g6 h
    obtain ⟨n, rfl⟩ : ∃ n1, n = n1 + 1 := ⟨n - 1, by omega⟩
    replace hn : f ≤ n := Nat.le_of_succ_le_succ hn
    have hN := Nat.le_trans (Nat.le_of_succ_le hF) hN
    replace h := qa_iload (n := 6) (q := 144) (qa_d rfl h) rfl g6
    replace h := qa_push (z := (4 : Int32)) (q := 145) (qa_e rfl h) rfl (by decide)
    by_cases c1 : s.1 < (4 : Int32)
    · replace h := qa_iff (q := 148) (qa_e rfl h) rfl (qa_F_ge c1)
      replace h := qa_aload (n := 0) (q := 149) (qa_e rfl h) rfl g0
      replace h := qa_gr (b := 104) (j := 6) (q := 152) (qa_e rfl h) rfl hM rfl (by decide)
      replace h := qa_iload (n := 5) (q := 154) (qa_e rfl h) rfl g5
      replace h := qa_iaload (jn := l5.toNatClampNeg) (q := 155) (qa_e rfl h) rfl hM es rfl
      replace h := qa_iload (n := 6) (q := 157) (qa_e rfl h) rfl g6
      obtain ⟨M, h, hM, es⟩ := qa_c1 (y := 185) (as := [.int ((σ 104 l5.toNatClampNeg)), .int (s.1)]) (rest := []) (i := .invokestatic 185) (q := 160) (qa_e rfl h) (Or.inr rfl) rfl rfl (by decide) rfl (fun r hc => mb_185 hM es hc)
      obtain ⟨lv, M, h, hM, es, g0, g1, g3, g4, g5, g6⟩ : ∃ lv M, q4_run f 224 197 lv [.int ((if (ma_185 (σ 104 l5.toNatClampNeg) s.1) = (0 : Int32) then (0 : Int32) else (if (ma_186_99 l5 (σ 111 s.1.toNatClampNeg) σ) = (ma_186_99 l5 (σ 109 s.1.toNatClampNeg) σ) then (0 : Int32) else (1 : Int32))))] M 0 0 = some r ∧ qa_O M ∧ qa_s M = σ ∧ q4_get lv 0 = some (.ref 99) ∧ q4_get lv 1 = some (.int (l1)) ∧ q4_get lv 3 = some (.int (s.2.1)) ∧ q4_get lv 4 = some (.int (s.2.2)) ∧ q4_get lv 5 = some (.int (l5)) ∧ q4_get lv 6 = some (.int (s.1)) := by
        by_cases c2 : (ma_185 (σ 104 l5.toNatClampNeg) s.1) = (0 : Int32)
        · replace h := qa_ict (q := 196) (qa_e rfl h) rfl (qa_T_eq c2)
          replace h := qa_push (z := (0 : Int32)) (q := 197) (qa_e rfl h) rfl (by decide)
          exact ⟨lv, M, (qa_hi1 c2 h), hM, es, g0, g1, g3, g4, g5, g6⟩
        · replace h := qa_icf (q := 163) (qa_e rfl h) rfl (qa_F_eq c2)
          replace h := qa_aload (n := 0) (q := 164) (qa_e rfl h) rfl g0
          replace h := qa_iload (n := 5) (q := 166) (qa_e rfl h) rfl g5
          replace h := qa_aload (n := 0) (q := 167) (qa_e rfl h) rfl g0
          replace h := qa_gr (b := 111) (j := 14) (q := 170) (qa_e rfl h) rfl hM rfl (by decide)
          replace h := qa_iload (n := 6) (q := 172) (qa_e rfl h) rfl g6
          replace h := qa_iaload (jn := s.1.toNatClampNeg) (q := 173) (qa_e rfl h) rfl hM es rfl
          obtain ⟨M, h, hM, es⟩ := qa_c1 (y := 186) (as := [.ref 99, .int (l5), .int ((σ 111 s.1.toNatClampNeg))]) (rest := []) (i := .invokevirtual 186) (q := 176) (qa_e rfl h) (Or.inl rfl) rfl rfl (by decide) rfl (fun r hc => mb_186_99 hM es hc)
          replace h := qa_aload (n := 0) (q := 177) (qa_e rfl h) rfl g0
          replace h := qa_iload (n := 5) (q := 179) (qa_e rfl h) rfl g5
          replace h := qa_aload (n := 0) (q := 180) (qa_e rfl h) rfl g0
          replace h := qa_gr (b := 109) (j := 12) (q := 183) (qa_e rfl h) rfl hM rfl (by decide)
          replace h := qa_iload (n := 6) (q := 185) (qa_e rfl h) rfl g6
          replace h := qa_iaload (jn := s.1.toNatClampNeg) (q := 186) (qa_e rfl h) rfl hM es rfl
          obtain ⟨M, h, hM, es⟩ := qa_c1 (y := 186) (as := [.ref 99, .int (l5), .int ((σ 109 s.1.toNatClampNeg))]) (rest := [.int ((ma_186_99 l5 (σ 111 s.1.toNatClampNeg) σ))]) (i := .invokevirtual 186) (q := 189) (qa_e rfl h) (Or.inl rfl) rfl rfl (by decide) rfl (fun r hc => mb_186_99 hM es hc)
          obtain ⟨lv, M, h, hM, es, g0, g1, g3, g4, g5, g6⟩ : ∃ lv M, q4_run f 224 197 lv [.int ((if (ma_186_99 l5 (σ 111 s.1.toNatClampNeg) σ) = (ma_186_99 l5 (σ 109 s.1.toNatClampNeg) σ) then (0 : Int32) else (1 : Int32)))] M 0 0 = some r ∧ qa_O M ∧ qa_s M = σ ∧ q4_get lv 0 = some (.ref 99) ∧ q4_get lv 1 = some (.int (l1)) ∧ q4_get lv 3 = some (.int (s.2.1)) ∧ q4_get lv 4 = some (.int (s.2.2)) ∧ q4_get lv 5 = some (.int (l5)) ∧ q4_get lv 6 = some (.int (s.1)) := by
            by_cases c3 : (ma_186_99 l5 (σ 111 s.1.toNatClampNeg) σ) = (ma_186_99 l5 (σ 109 s.1.toNatClampNeg) σ)
            · replace h := qa_ift (q := 196) (qa_e rfl h) rfl (qa_T_eq c3)
              replace h := qa_push (z := (0 : Int32)) (q := 197) (qa_e rfl h) rfl (by decide)
              exact ⟨lv, M, (qa_hi1 c3 h), hM, es, g0, g1, g3, g4, g5, g6⟩
            · replace h := qa_iff (q := 192) (qa_e rfl h) rfl (qa_F_eq c3)
              replace h := qa_push (z := (1 : Int32)) (q := 193) (qa_e rfl h) rfl (by decide)
              replace h := qa_goto (q := 197) (qa_e rfl h) rfl
              exact ⟨lv, M, (qa_hi0 c3 h), hM, es, g0, g1, g3, g4, g5, g6⟩
          exact ⟨lv, M, (qa_hi0 c2 h), hM, es, g0, g1, g3, g4, g5, g6⟩
      obtain ⟨lv, h, g, T⟩ := qa_istore (n := 7) (q := 199) (qa_e rfl h) rfl
      replace g0 := T _ _ g0 (by decide) (Or.inr rfl)
      replace g1 := T _ _ g1 (by decide) (Or.inr rfl)
      replace g3 := T _ _ g3 (by decide) (Or.inr rfl)
      replace g4 := T _ _ g4 (by decide) (Or.inr rfl)
      replace g5 := T _ _ g5 (by decide) (Or.inr rfl)
      replace g6 := T _ _ g6 (by decide) (Or.inr rfl)
      have g7 := g
      clear g T
      replace h := qa_iload (n := 3) (q := 200) (qa_e rfl h) rfl g3
      replace h := qa_iload (n := 7) (q := 202) (qa_e rfl h) rfl g7
      obtain ⟨lv, M, h, hM, es, g0, g1, g4, g5, g6, g7⟩ : ∃ lv M, q4_run f 224 213 lv [.int ((if (if (ma_185 (σ 104 l5.toNatClampNeg) s.1) = (0 : Int32) then (0 : Int32) else (if (ma_186_99 l5 (σ 111 s.1.toNatClampNeg) σ) = (ma_186_99 l5 (σ 109 s.1.toNatClampNeg) σ) then (0 : Int32) else (1 : Int32))) = (0 : Int32) then (0 : Int32) else ((1 : Int32) <<< (l5 &&& 31)))), .int (s.2.1)] M 0 0 = some r ∧ qa_O M ∧ qa_s M = σ ∧ q4_get lv 0 = some (.ref 99) ∧ q4_get lv 1 = some (.int (l1)) ∧ q4_get lv 4 = some (.int (s.2.2)) ∧ q4_get lv 5 = some (.int (l5)) ∧ q4_get lv 6 = some (.int (s.1)) ∧ q4_get lv 7 = some (.int ((if (ma_185 (σ 104 l5.toNatClampNeg) s.1) = (0 : Int32) then (0 : Int32) else (if (ma_186_99 l5 (σ 111 s.1.toNatClampNeg) σ) = (ma_186_99 l5 (σ 109 s.1.toNatClampNeg) σ) then (0 : Int32) else (1 : Int32))))) := by
        by_cases c4 : (if (ma_185 (σ 104 l5.toNatClampNeg) s.1) = (0 : Int32) then (0 : Int32) else (if (ma_186_99 l5 (σ 111 s.1.toNatClampNeg) σ) = (ma_186_99 l5 (σ 109 s.1.toNatClampNeg) σ) then (0 : Int32) else (1 : Int32))) = (0 : Int32)
        · replace h := qa_ict (q := 212) (qa_e rfl h) rfl (qa_T_eq c4)
          replace h := qa_push (z := (0 : Int32)) (q := 213) (qa_e rfl h) rfl (by decide)
          exact ⟨lv, M, (qa_hi1 c4 h), hM, es, g0, g1, g4, g5, g6, g7⟩
        · replace h := qa_icf (q := 205) (qa_e rfl h) rfl (qa_F_eq c4)
          replace h := qa_push (z := (1 : Int32)) (q := 206) (qa_e rfl h) rfl (by decide)
          replace h := qa_iload (n := 5) (q := 208) (qa_e rfl h) rfl g5
          replace h := qa_ishl (q := 209) (qa_e rfl h) rfl
          replace h := qa_goto (q := 213) (qa_e rfl h) rfl
          exact ⟨lv, M, (qa_hi0 c4 h), hM, es, g0, g1, g4, g5, g6, g7⟩
      replace h := qa_ior (q := 214) (qa_e rfl h) rfl
      obtain ⟨lv, h, g, T⟩ := qa_istore (n := 3) (q := 215) (qa_e rfl h) rfl
      replace g0 := T _ _ g0 (by decide) (Or.inr rfl)
      replace g1 := T _ _ g1 (by decide) (Or.inr rfl)
      replace g4 := T _ _ g4 (by decide) (Or.inr rfl)
      replace g5 := T _ _ g5 (by decide) (Or.inr rfl)
      replace g6 := T _ _ g6 (by decide) (Or.inr rfl)
      replace g7 := T _ _ g7 (by decide) (Or.inr rfl)
      have g3 := g
      clear g T
      replace h := qa_iload (n := 4) (q := 217) (qa_e rfl h) rfl g4
      replace h := qa_iload (n := 7) (q := 219) (qa_e rfl h) rfl g7
      obtain ⟨lv, M, h, hM, es, g0, g1, g3, g5, g6⟩ : ∃ lv M, q4_run f 224 230 lv [.int ((if (if (ma_185 (σ 104 l5.toNatClampNeg) s.1) = (0 : Int32) then (0 : Int32) else (if (ma_186_99 l5 (σ 111 s.1.toNatClampNeg) σ) = (ma_186_99 l5 (σ 109 s.1.toNatClampNeg) σ) then (0 : Int32) else (1 : Int32))) = (0 : Int32) then (0 : Int32) else ((1 : Int32) <<< (s.1 &&& 31)))), .int (s.2.2)] M 0 0 = some r ∧ qa_O M ∧ qa_s M = σ ∧ q4_get lv 0 = some (.ref 99) ∧ q4_get lv 1 = some (.int (l1)) ∧ q4_get lv 3 = some (.int ((s.2.1 ||| (if (if (ma_185 (σ 104 l5.toNatClampNeg) s.1) = (0 : Int32) then (0 : Int32) else (if (ma_186_99 l5 (σ 111 s.1.toNatClampNeg) σ) = (ma_186_99 l5 (σ 109 s.1.toNatClampNeg) σ) then (0 : Int32) else (1 : Int32))) = (0 : Int32) then (0 : Int32) else ((1 : Int32) <<< (l5 &&& 31)))))) ∧ q4_get lv 5 = some (.int (l5)) ∧ q4_get lv 6 = some (.int (s.1)) := by
        by_cases c5 : (if (ma_185 (σ 104 l5.toNatClampNeg) s.1) = (0 : Int32) then (0 : Int32) else (if (ma_186_99 l5 (σ 111 s.1.toNatClampNeg) σ) = (ma_186_99 l5 (σ 109 s.1.toNatClampNeg) σ) then (0 : Int32) else (1 : Int32))) = (0 : Int32)
        · replace h := qa_ict (q := 229) (qa_e rfl h) rfl (qa_T_eq c5)
          replace h := qa_push (z := (0 : Int32)) (q := 230) (qa_e rfl h) rfl (by decide)
          exact ⟨lv, M, (qa_hi1 c5 h), hM, es, g0, g1, g3, g5, g6⟩
        · replace h := qa_icf (q := 222) (qa_e rfl h) rfl (qa_F_eq c5)
          replace h := qa_push (z := (1 : Int32)) (q := 223) (qa_e rfl h) rfl (by decide)
          replace h := qa_iload (n := 6) (q := 225) (qa_e rfl h) rfl g6
          replace h := qa_ishl (q := 226) (qa_e rfl h) rfl
          replace h := qa_goto (q := 230) (qa_e rfl h) rfl
          exact ⟨lv, M, (qa_hi0 c5 h), hM, es, g0, g1, g3, g5, g6⟩
      replace h := qa_ior (q := 231) (qa_e rfl h) rfl
      obtain ⟨lv, h, g, T⟩ := qa_istore (n := 4) (q := 233) (qa_e rfl h) rfl
      replace g0 := T _ _ g0 (by decide) (Or.inr rfl)
      replace g1 := T _ _ g1 (by decide) (Or.inr rfl)
      replace g3 := T _ _ g3 (by decide) (Or.inr rfl)
      replace g5 := T _ _ g5 (by decide) (Or.inr rfl)
      replace g6 := T _ _ g6 (by decide) (Or.inr rfl)
      have g4 := g
      clear g T
      obtain ⟨lv, h, g, T⟩ := qa_iinc (n := 6) (z := (1 : Int32)) (q := 236) (qa_e rfl h) rfl (by decide) g6
      replace g0 := T _ _ g0 (by decide) (Or.inr rfl)
      replace g1 := T _ _ g1 (by decide) (Or.inr rfl)
      replace g3 := T _ _ g3 (by decide) (Or.inr rfl)
      replace g4 := T _ _ g4 (by decide) (Or.inr rfl)
      replace g5 := T _ _ g5 (by decide) (Or.inr rfl)
      replace g6 := g
      clear g T
      replace h := qa_goto (q := 142) (qa_e rfl h) rfl
      have e0 : mc_224_99_p142 N l1 l5 σ s = .inl ((s.1 + (1 : Int32)), (s.2.1 ||| (if (if (ma_185 (σ 104 l5.toNatClampNeg) s.1) = (0 : Int32) then (0 : Int32) else (if (ma_186_99 l5 (σ 111 s.1.toNatClampNeg) σ) = (ma_186_99 l5 (σ 109 s.1.toNatClampNeg) σ) then (0 : Int32) else (1 : Int32))) = (0 : Int32) then (0 : Int32) else ((1 : Int32) <<< (l5 &&& 31)))), (s.2.2 ||| (if (if (ma_185 (σ 104 l5.toNatClampNeg) s.1) = (0 : Int32) then (0 : Int32) else (if (ma_186_99 l5 (σ 111 s.1.toNatClampNeg) σ) = (ma_186_99 l5 (σ 109 s.1.toNatClampNeg) σ) then (0 : Int32) else (1 : Int32))) = (0 : Int32) then (0 : Int32) else ((1 : Int32) <<< (s.1 &&& 31))))) := by exact Eq.trans (if_pos c1) (rfl)
      rw [qa_whl e0]
      exact ih n hn (Nat.le_of_succ_le hF) ((s.1 + (1 : Int32)), (s.2.1 ||| (if (if (ma_185 (σ 104 l5.toNatClampNeg) s.1) = (0 : Int32) then (0 : Int32) else (if (ma_186_99 l5 (σ 111 s.1.toNatClampNeg) σ) = (ma_186_99 l5 (σ 109 s.1.toNatClampNeg) σ) then (0 : Int32) else (1 : Int32))) = (0 : Int32) then (0 : Int32) else ((1 : Int32) <<< (l5 &&& 31)))), (s.2.2 ||| (if (if (ma_185 (σ 104 l5.toNatClampNeg) s.1) = (0 : Int32) then (0 : Int32) else (if (ma_186_99 l5 (σ 111 s.1.toNatClampNeg) σ) = (ma_186_99 l5 (σ 109 s.1.toNatClampNeg) σ) then (0 : Int32) else (1 : Int32))) = (0 : Int32) then (0 : Int32) else ((1 : Int32) <<< (s.1 &&& 31))))) _ _ hM es g0 g1 g3 g4 g5 g6 h
    · replace h := qa_ift (q := 239) (qa_e rfl h) rfl (qa_T_ge c1)
      have e0 : mc_224_99_p142 N l1 l5 σ s = .inr (s.1, s.2.1, s.2.2) := by exact Eq.trans (if_neg c1) (rfl)
      rw [qa_whr e0]
      exact ⟨_, _, q61_mono f F _ _ _ _ _ _ _ _ (Nat.le_of_succ_le hF) h, hM, es, g0, g1, g3, g4, g5⟩
