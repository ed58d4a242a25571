/-- BuriedBySevens, has, (II)Z -/
noncomputable def ma_48 (a0 : Int32) (a1 : Int32) : Int32 :=
  (if ((a0 >>> (a1 &&& 31)) &&& (1 : Int32)) = (1 : Int32) then (1 : Int32) else (0 : Int32))
theorem mb_48 {f : Nat} {M : q4_M} {r : Option Value × q4_M} {σ : qa_S} {a0 : Int32} {a1 : Int32} (hM : qa_O M) (es : qa_s M = σ) (h : q4_run f 48 0 (lv_args 0 [.int (a0), .int (a1)]) [] M 0 0 = some r) : r.1 = some (.int ((ma_48 a0 a1))) ∧ qa_O r.2 ∧ qa_s r.2 = σ := by
  obtain ⟨lv, el⟩ : ∃ l, l = lv_args 0 [.int (a0), .int (a1)] := ⟨_, rfl⟩
  have g0 : q4_get lv 0 = some (.int (a0)) := by rw [el]; rfl
  have g1 : q4_get lv 1 = some (.int (a1)) := by rw [el]; rfl
  rw [← el] at h
  clear el
  replace h := qa_iload (n := 0) (q := 1) (qa_e rfl h) rfl g0
  replace h := qa_iload (n := 1) (q := 2) (qa_e rfl h) rfl g1
  replace h := qa_ishr (q := 3) (qa_e rfl h) rfl
  replace h := qa_push (z := (1 : Int32)) (q := 4) (qa_e rfl h) rfl (by decide)
  replace h := qa_iand (q := 5) (qa_e rfl h) rfl
  replace h := qa_push (z := (1 : Int32)) (q := 6) (qa_e rfl h) rfl (by decide)
  obtain ⟨lv, M, h, hM, es⟩ : ∃ lv M, q4_run f 48 14 lv [.int ((if ((a0 >>> (a1 &&& 31)) &&& (1 : Int32)) = (1 : Int32) then (1 : Int32) else (0 : Int32)))] M 0 0 = some r ∧ qa_O M ∧ qa_s M = σ := by
    by_cases c1 : ((a0 >>> (a1 &&& 31)) &&& (1 : Int32)) = (1 : Int32)
    · replace h := qa_iff (q := 9) (qa_e rfl h) rfl (qa_F_ne c1)
      replace h := qa_push (z := (1 : Int32)) (q := 10) (qa_e rfl h) rfl (by decide)
      replace h := qa_goto (q := 14) (qa_e rfl h) rfl
      exact ⟨lv, M, (qa_hi1 c1 h), hM, es⟩
    · replace h := qa_ift (q := 13) (qa_e rfl h) rfl (qa_T_ne c1)
      replace h := qa_push (z := (0 : Int32)) (q := 14) (qa_e rfl h) rfl (by decide)
      exact ⟨lv, M, (qa_hi0 c1 h), hM, es⟩
  have er := qa_ri (qa_e rfl h)
  subst er
  have e0 : ma_48 a0 a1 = (if ((a0 >>> (a1 &&& 31)) &&& (1 : Int32)) = (1 : Int32) then (1 : Int32) else (0 : Int32)) := by exact rfl
  rw [e0]
  exact ⟨rfl, hM, es⟩
noncomputable def mc_47_4_p18 (N : Nat) (l1 : Nat) (l2 : Int32) (l3 : Int32) (l4 : Nat) (l5 : Int32) (σ : qa_S) (s : Int32 × Int32 × Int32) : (Int32 × Int32 × Int32) ⊕ (Int32 × Int32 × Int32) :=
  if s.1 < (σ 4 0) then
    .inl ((s.1 + (1 : Int32)), (if (ma_48 l2 s.1) = (0 : Int32) then s.2.1 else (s.2.1 + ((σ l1 s.1.toNatClampNeg) * (σ (17 + s.1.toNatClampNeg) l5.toNatClampNeg)))), (if (ma_48 l2 s.1) = (0 : Int32) then s.2.2 else (s.2.2 + (σ l1 s.1.toNatClampNeg))))
  else
    .inr (s.1, s.2.1, s.2.2)
theorem md_47_4_p18 {N F : Nat} {r : Option Value × q4_M} {l1 : Nat} {l2 : Int32} {l3 : Int32} {l4 : Nat} {l5 : Int32} {σ : qa_S} (hN : F ≤ N) : ∀ f n, f ≤ n → f ≤ F → ∀ (s : Int32 × Int32 × Int32) (lv : List (Nat × Value)) (M : q4_M), qa_O M → qa_s M = σ → q4_get lv 0 = some (.ref 4) → q4_get lv 1 = some (.ref (l1)) → q4_get lv 2 = some (.int (l2)) → q4_get lv 3 = some (.int (l3)) → q4_get lv 4 = some (.ref (l4)) → q4_get lv 5 = some (.int (l5)) → q4_get lv 6 = some (.int (s.2.1)) → q4_get lv 7 = some (.int (s.2.2)) → q4_get lv 8 = some (.int (s.1)) → q4_run f 47 18 lv [] M 0 0 = some r → ∃ lv M, q4_run F 47 71 lv [] M 0 0 = some r ∧ qa_O M ∧ qa_s M = σ ∧ q4_get lv 0 = some (.ref 4) ∧ q4_get lv 1 = some (.ref (l1)) ∧ q4_get lv 2 = some (.int (l2)) ∧ q4_get lv 3 = some (.int (l3)) ∧ q4_get lv 4 = some (.ref (l4)) ∧ q4_get lv 5 = some (.int (l5)) ∧ q4_get lv 6 = some (.int ((qa_wh (fun s => s) (mc_47_4_p18 N l1 l2 l3 l4 l5 σ) n s).2.1)) ∧ q4_get lv 7 = some (.int ((qa_wh (fun s => s) (mc_47_4_p18 N l1 l2 l3 l4 l5 σ) n s).2.2)) := by
  intro f
  induction f with
  | zero => intro n _ _ s lv M hM es _ _ _ _ _ _ _ _ _ h; cases h
  | succ f ih =>
    intro n hn hF s lv M hM es g0 g1 g2 g3 g4 g5 g6 g7 g8 h
    obtain ⟨n, rfl⟩ : ∃ n1, n = n1 + 1 := ⟨n - 1, by omega⟩
    replace hn : f ≤ n := Nat.le_of_succ_le_succ hn
    have hN := Nat.le_trans (Nat.le_of_succ_le hF) hN
    replace h := qa_iload (n := 8) (q := 20) (qa_d rfl h) rfl g8
    replace h := qa_aload (n := 0) (q := 21) (qa_e rfl h) rfl g0
    replace h := qa_gi (j := 0) (q := 24) (qa_e rfl h) rfl hM es rfl (by decide)
    by_cases c1 : s.1 < (σ 4 0)
    · replace h := qa_iff (q := 27) (qa_e rfl h) rfl (qa_F_ge c1)
      replace h := qa_iload (n := 2) (q := 28) (qa_e rfl h) rfl g2
      replace h := qa_iload (n := 8) (q := 30) (qa_e rfl h) rfl g8
      obtain ⟨M, h, hM, es⟩ := qa_c1 (y := 48) (as := [.int (l2), .int (s.1)]) (rest := []) (i := .invokestatic 48) (q := 33) (qa_e rfl h) (Or.inr rfl) rfl rfl (by decide) rfl (fun r hc => mb_48 hM es hc)
      obtain ⟨lv, M, h, hM, es, g0, g1, g2, g3, g4, g5, g6, g7, g8⟩ : ∃ lv M, q4_run f 47 65 lv [] M 0 0 = some r ∧ qa_O M ∧ qa_s M = σ ∧ q4_get lv 0 = some (.ref 4) ∧ q4_get lv 1 = some (.ref (l1)) ∧ q4_get lv 2 = some (.int (l2)) ∧ q4_get lv 3 = some (.int (l3)) ∧ q4_get lv 4 = some (.ref (l4)) ∧ q4_get lv 5 = some (.int (l5)) ∧ q4_get lv 6 = some (.int ((if (ma_48 l2 s.1) = (0 : Int32) then s.2.1 else (s.2.1 + ((σ l1 s.1.toNatClampNeg) * (σ (17 + s.1.toNatClampNeg) l5.toNatClampNeg)))))) ∧ q4_get lv 7 = some (.int ((if (ma_48 l2 s.1) = (0 : Int32) then s.2.2 else (s.2.2 + (σ l1 s.1.toNatClampNeg))))) ∧ q4_get lv 8 = some (.int (s.1)) := by
        by_cases c2 : (ma_48 l2 s.1) = (0 : Int32)
        · replace h := qa_ict (q := 65) (qa_e rfl h) rfl (qa_T_eq c2)
          exact ⟨lv, M, h, hM, es, g0, g1, g2, g3, g4, g5, (qa_gi1 c2 g6), (qa_gi1 c2 g7), g8⟩
        · replace h := qa_icf (q := 36) (qa_e rfl h) rfl (qa_F_eq c2)
          replace h := qa_iload (n := 6) (q := 38) (qa_e rfl h) rfl g6
          replace h := qa_aload (n := 1) (q := 39) (qa_e rfl h) rfl g1
          replace h := qa_iload (n := 8) (q := 41) (qa_e rfl h) rfl g8
          replace h := qa_iaload (jn := s.1.toNatClampNeg) (q := 42) (qa_e rfl h) rfl hM es rfl
          replace h := qa_aload (n := 0) (q := 43) (qa_e rfl h) rfl g0
          replace h := qa_gr (b := 16) (j := 6) (q := 46) (qa_e rfl h) rfl hM rfl (by decide)
          replace h := qa_iload (n := 8) (q := 48) (qa_e rfl h) rfl g8
          replace h := qa_aaload (b := 17) (jn := s.1.toNatClampNeg) (q := 49) (qa_e rfl h) rfl hM rfl (by decide) (by decide +kernel)
          replace h := qa_iload (n := 5) (q := 51) (qa_e rfl h) rfl g5
          replace h := qa_iaload (jn := l5.toNatClampNeg) (q := 52) (qa_e rfl h) rfl hM es rfl
          replace h := qa_imul (q := 53) (qa_e rfl h) rfl
          replace h := qa_iadd (q := 54) (qa_e rfl h) rfl
          obtain ⟨lv, h, g, T⟩ := qa_istore (n := 6) (q := 56) (qa_e rfl h) rfl
          replace g0 := T _ _ g0 (by decide) (Or.inr rfl)
          replace g1 := T _ _ g1 (by decide) (Or.inr rfl)
          replace g2 := T _ _ g2 (by decide) (Or.inr rfl)
          replace g3 := T _ _ g3 (by decide) (Or.inr rfl)
          replace g4 := T _ _ g4 (by decide) (Or.inr rfl)
          replace g5 := T _ _ g5 (by decide) (Or.inr rfl)
          replace g7 := T _ _ g7 (by decide) (Or.inr rfl)
          replace g8 := T _ _ g8 (by decide) (Or.inr rfl)
          have g6 := g
          clear g T
          replace h := qa_iload (n := 7) (q := 58) (qa_e rfl h) rfl g7
          replace h := qa_aload (n := 1) (q := 59) (qa_e rfl h) rfl g1
          replace h := qa_iload (n := 8) (q := 61) (qa_e rfl h) rfl g8
          replace h := qa_iaload (jn := s.1.toNatClampNeg) (q := 62) (qa_e rfl h) rfl hM es rfl
          replace h := qa_iadd (q := 63) (qa_e rfl h) rfl
          obtain ⟨lv, h, g, T⟩ := qa_istore (n := 7) (q := 65) (qa_e rfl h) rfl
          replace g0 := T _ _ g0 (by decide) (Or.inr rfl)
          replace g1 := T _ _ g1 (by decide) (Or.inr rfl)
          replace g2 := T _ _ g2 (by decide) (Or.inr rfl)
          replace g3 := T _ _ g3 (by decide) (Or.inr rfl)
          replace g4 := T _ _ g4 (by decide) (Or.inr rfl)
          replace g5 := T _ _ g5 (by decide) (Or.inr rfl)
          replace g6 := T _ _ g6 (by decide) (Or.inr rfl)
          replace g8 := T _ _ g8 (by decide) (Or.inr rfl)
          have g7 := g
          clear g T
          exact ⟨lv, M, h, hM, es, g0, g1, g2, g3, g4, g5, (qa_gi0 c2 g6), (qa_gi0 c2 g7), g8⟩
      obtain ⟨lv, h, g, T⟩ := qa_iinc (n := 8) (z := (1 : Int32)) (q := 68) (qa_e rfl h) rfl (by decide) g8
      replace g0 := T _ _ g0 (by decide) (Or.inr rfl)
      replace g1 := T _ _ g1 (by decide) (Or.inr rfl)
      replace g2 := T _ _ g2 (by decide) (Or.inr rfl)
      replace g3 := T _ _ g3 (by decide) (Or.inr rfl)
      replace g4 := T _ _ g4 (by decide) (Or.inr rfl)
      replace g5 := T _ _ g5 (by decide) (Or.inr rfl)
      replace g6 := T _ _ g6 (by decide) (Or.inr rfl)
      replace g7 := T _ _ g7 (by decide) (Or.inr rfl)
      replace g8 := g
      clear g T
      replace h := qa_goto (q := 18) (qa_e rfl h) rfl
      have e0 : mc_47_4_p18 N l1 l2 l3 l4 l5 σ s = .inl ((s.1 + (1 : Int32)), (if (ma_48 l2 s.1) = (0 : Int32) then s.2.1 else (s.2.1 + ((σ l1 s.1.toNatClampNeg) * (σ (17 + s.1.toNatClampNeg) l5.toNatClampNeg)))), (if (ma_48 l2 s.1) = (0 : Int32) then s.2.2 else (s.2.2 + (σ l1 s.1.toNatClampNeg)))) := by exact Eq.trans (if_pos c1) (rfl)
      rw [qa_whl e0]
      exact ih n hn (Nat.le_of_succ_le hF) ((s.1 + (1 : Int32)), (if (ma_48 l2 s.1) = (0 : Int32) then s.2.1 else (s.2.1 + ((σ l1 s.1.toNatClampNeg) * (σ (17 + s.1.toNatClampNeg) l5.toNatClampNeg)))), (if (ma_48 l2 s.1) = (0 : Int32) then s.2.2 else (s.2.2 + (σ l1 s.1.toNatClampNeg)))) _ _ hM es g0 g1 g2 g3 g4 g5 g6 g7 g8 h
    · replace h := qa_ift (q := 71) (qa_e rfl h) rfl (qa_T_ge c1)
      have e0 : mc_47_4_p18 N l1 l2 l3 l4 l5 σ s = .inr (s.1, s.2.1, s.2.2) := by exact Eq.trans (if_neg c1) (rfl)
      rw [qa_whr e0]
      exact ⟨_, _, q61_mono f F _ _ _ _ _ _ _ _ (Nat.le_of_succ_le hF) h, hM, es, g0, g1, g2, g3, g4, g5, g6, g7⟩
noncomputable def mc_47_4_p3 (N : Nat) (l1 : Nat) (l2 : Int32) (l3 : Int32) (l4 : Nat) (s : Int32 × qa_S) : (Int32 × qa_S) ⊕ (Int32 × qa_S) :=
  if s.1 < (4 : Int32) then
    qa_in ((qa_wh (fun s => s) (mc_47_4_p18 N l1 l2 l3 l4 s.1 s.2) N ((0 : Int32), (0 : Int32), l3))) fun r2 =>
    qa_in (qa_u s.2 l4 s.1.toNatClampNeg (if r2.2.2 = (0 : Int32) then (0 : Int32) else (r2.2.1 / r2.2.2))) fun m4 =>
    .inl ((s.1 + (1 : Int32)), m4)
  else
    .inr (s.1, s.2)
theorem md_47_4_p3 {N F : Nat} {r : Option Value × q4_M} {l1 : Nat} {l2 : Int32} {l3 : Int32} {l4 : Nat} (hN : F ≤ N) : ∀ f n, f ≤ n → f ≤ F → ∀ (s : Int32 × qa_S) (lv : List (Nat × Value)) (M : q4_M), qa_O M → qa_s M = s.2 → q4_get lv 0 = some (.ref 4) → q4_get lv 1 = some (.ref (l1)) → q4_get lv 2 = some (.int (l2)) → q4_get lv 3 = some (.int (l3)) → q4_get lv 4 = some (.ref (l4)) → q4_get lv 5 = some (.int (s.1)) → q4_run f 47 3 lv [] M 0 0 = some r → ∃ lv M, q4_run F 47 96 lv [] M 0 0 = some r ∧ qa_O M ∧ qa_s M = (qa_wh (fun s => s) (mc_47_4_p3 N l1 l2 l3 l4) n s).2 := by
  intro f
  induction f with
  | zero => intro n _ _ s lv M hM es _ _ _ _ _ _ h; cases h
  | succ f ih =>
    intro n hn hF s lv M hM es g0 g1 g2 g3 g4 g5 h
    obtain ⟨n, rfl⟩ : ∃ n1, n = n1 + 1 := ⟨n - 1, by omega⟩
    replace hn : f ≤ n := Nat.le_of_succ_le_succ hn
    have hN := Nat.le_trans (Nat.le_of_succ_le hF) hN
    replace h := qa_iload (n := 5) (q := 5) (qa_d rfl h) rfl g5
    replace h := qa_push (z := (4 : Int32)) (q := 6) (qa_e rfl h) rfl (by decide)
    by_cases c1 : s.1 < (4 : Int32)
    · replace h := qa_iff (q := 9) (qa_e rfl h) rfl (qa_F_ge c1)
      replace h := qa_push (z := (0 : Int32)) (q := 10) (qa_e rfl h) rfl (by decide)
      obtain ⟨lv, h, g, T⟩ := qa_istore (n := 6) (q := 12) (qa_e rfl h) rfl
      replace g0 := T _ _ g0 (by decide) (Or.inr rfl)
      replace g1 := T _ _ g1 (by decide) (Or.inr rfl)
      replace g2 := T _ _ g2 (by decide) (Or.inr rfl)
      replace g3 := T _ _ g3 (by decide) (Or.inr rfl)
      replace g4 := T _ _ g4 (by decide) (Or.inr rfl)
      replace g5 := T _ _ g5 (by decide) (Or.inr rfl)
      have g6 := g
      clear g T
      replace h := qa_iload (n := 3) (q := 13) (qa_e rfl h) rfl g3
      obtain ⟨lv, h, g, T⟩ := qa_istore (n := 7) (q := 15) (qa_e rfl h) rfl
      replace g0 := T _ _ g0 (by decide) (Or.inr rfl)
      replace g1 := T _ _ g1 (by decide) (Or.inr rfl)
      replace g2 := T _ _ g2 (by decide) (Or.inr rfl)
      replace g3 := T _ _ g3 (by decide) (Or.inr rfl)
      replace g4 := T _ _ g4 (by decide) (Or.inr rfl)
      replace g5 := T _ _ g5 (by decide) (Or.inr rfl)
      replace g6 := T _ _ g6 (by decide) (Or.inr rfl)
      have g7 := g
      clear g T
      replace h := qa_push (z := (0 : Int32)) (q := 16) (qa_e rfl h) rfl (by decide)
      obtain ⟨lv, h, g, T⟩ := qa_istore (n := 8) (q := 18) (qa_e rfl h) rfl
      replace g0 := T _ _ g0 (by decide) (Or.inr rfl)
      replace g1 := T _ _ g1 (by decide) (Or.inr rfl)
      replace g2 := T _ _ g2 (by decide) (Or.inr rfl)
      replace g3 := T _ _ g3 (by decide) (Or.inr rfl)
      replace g4 := T _ _ g4 (by decide) (Or.inr rfl)
      replace g5 := T _ _ g5 (by decide) (Or.inr rfl)
      replace g6 := T _ _ g6 (by decide) (Or.inr rfl)
      replace g7 := T _ _ g7 (by decide) (Or.inr rfl)
      have g8 := g
      clear g T
      obtain ⟨r2, er2⟩ : ∃ x, x = (qa_wh (fun s => s) (mc_47_4_p18 N l1 l2 l3 l4 s.1 s.2) N ((0 : Int32), (0 : Int32), l3)) := ⟨_, rfl⟩
      have L := md_47_4_p18 (l1 := l1) (l2 := l2) (l3 := l3) (l4 := l4) (l5 := s.1) (σ := s.2) (F := f) (N := N) (r := r) hN f N hN (Nat.le_refl f) ((0 : Int32), (0 : Int32), l3) _ _ hM es g0 g1 g2 g3 g4 g5 g6 g7 g8 h
      rw [← er2] at L
      obtain ⟨lv, M, h, hM, es, g0, g1, g2, g3, g4, g5, g6, g7⟩ := L
      replace h := qa_aload (n := 4) (q := 73) (qa_e rfl h) rfl g4
      replace h := qa_iload (n := 5) (q := 75) (qa_e rfl h) rfl g5
      replace h := qa_iload (n := 7) (q := 77) (qa_e rfl h) rfl g7
      obtain ⟨lv, M, h, hM, es, g0, g1, g2, g3, g4, g5⟩ : ∃ lv M, q4_run f 47 89 lv [.int ((if r2.2.2 = (0 : Int32) then (0 : Int32) else (r2.2.1 / r2.2.2))), .int (s.1), .ref (l4)] M 0 0 = some r ∧ qa_O M ∧ qa_s M = s.2 ∧ q4_get lv 0 = some (.ref 4) ∧ q4_get lv 1 = some (.ref (l1)) ∧ q4_get lv 2 = some (.int (l2)) ∧ q4_get lv 3 = some (.int (l3)) ∧ q4_get lv 4 = some (.ref (l4)) ∧ q4_get lv 5 = some (.int (s.1)) := by
        by_cases c3 : r2.2.2 = (0 : Int32)
        · replace h := qa_icf (q := 80) (qa_e rfl h) rfl (qa_F_ne c3)
          replace h := qa_push (z := (0 : Int32)) (q := 81) (qa_e rfl h) rfl (by decide)
          replace h := qa_goto (q := 89) (qa_e rfl h) rfl
          exact ⟨lv, M, (qa_hi1 c3 h), hM, es, g0, g1, g2, g3, g4, g5⟩
        · replace h := qa_ict (q := 84) (qa_e rfl h) rfl (qa_T_ne c3)
          replace h := qa_iload (n := 6) (q := 86) (qa_e rfl h) rfl g6
          replace h := qa_iload (n := 7) (q := 88) (qa_e rfl h) rfl g7
          replace h := qa_idiv (q := 89) (qa_e rfl h) rfl
          exact ⟨lv, M, (qa_hi0 c3 h), hM, es, g0, g1, g2, g3, g4, g5⟩
      obtain ⟨m4, em4⟩ : ∃ x, x = qa_u s.2 l4 s.1.toNatClampNeg (if r2.2.2 = (0 : Int32) then (0 : Int32) else (r2.2.1 / r2.2.2)) := ⟨_, rfl⟩
      obtain ⟨M, h, hM, es⟩ := qa_iastore (jn := s.1.toNatClampNeg) (q := 90) (qa_e rfl h) rfl hM es rfl
      rw [← em4] at es
      obtain ⟨lv, h, g, T⟩ := qa_iinc (n := 5) (z := (1 : Int32)) (q := 93) (qa_e rfl h) rfl (by decide) g5
      replace g0 := T _ _ g0 (by decide) (Or.inr rfl)
      replace g1 := T _ _ g1 (by decide) (Or.inr rfl)
      replace g2 := T _ _ g2 (by decide) (Or.inr rfl)
      replace g3 := T _ _ g3 (by decide) (Or.inr rfl)
      replace g4 := T _ _ g4 (by decide) (Or.inr rfl)
      replace g5 := g
      clear g T
      replace h := qa_goto (q := 3) (qa_e rfl h) rfl
      have e0 : mc_47_4_p3 N l1 l2 l3 l4 s = .inl ((s.1 + (1 : Int32)), m4) := by exact Eq.trans (if_pos c1) (Eq.trans (qa_ie er2) (Eq.trans (qa_ie em4) (rfl)))
      rw [qa_whl e0]
      exact ih n hn (Nat.le_of_succ_le hF) ((s.1 + (1 : Int32)), m4) _ _ hM es g0 g1 g2 g3 g4 g5 h
    · replace h := qa_ift (q := 96) (qa_e rfl h) rfl (qa_T_ge c1)
      have e0 : mc_47_4_p3 N l1 l2 l3 l4 s = .inr (s.1, s.2) := by exact Eq.trans (if_neg c1) (rfl)
      rw [qa_whr e0]
      exact ⟨_, _, q61_mono f F _ _ _ _ _ _ _ _ (Nat.le_of_succ_le hF) h, hM, es⟩
/-- BuriedBySevens$Cellar, mixSome, ([III[I)V -/
noncomputable def ma_47_4 (N : Nat) (a1 : Nat) (a2 : Int32) (a3 : Int32) (a4 : Nat) (σ : qa_S) : qa_S :=
  qa_in ((qa_wh (fun s => s) (mc_47_4_p3 N a1 a2 a3 a4) N ((0 : Int32), σ))) fun r1 =>
  r1.2
theorem mb_47_4 {f N : Nat} (hN : f ≤ N) {M : q4_M} {r : Option Value × q4_M} {σ : qa_S} {a1 : Nat} {a2 : Int32} {a3 : Int32} {a4 : Nat} (hM : qa_O M) (es : qa_s M = σ) (h : q4_run f 47 0 (lv_args 0 [.ref 4, .ref (a1), .int (a2), .int (a3), .ref (a4)]) [] M 0 0 = some r) : r.1 = none ∧ qa_O r.2 ∧ qa_s r.2 = (ma_47_4 N a1 a2 a3 a4 σ) := by
  obtain ⟨lv, el⟩ : ∃ l, l = lv_args 0 [.ref 4, .ref (a1), .int (a2), .int (a3), .ref (a4)] := ⟨_, rfl⟩
  have g0 : q4_get lv 0 = some (.ref 4) := by rw [el]; rfl
  have g1 : q4_get lv 1 = some (.ref (a1)) := by rw [el]; rfl
  have g2 : q4_get lv 2 = some (.int (a2)) := by rw [el]; rfl
  have g3 : q4_get lv 3 = some (.int (a3)) := by rw [el]; rfl
  have g4 : q4_get lv 4 = some (.ref (a4)) := by rw [el]; rfl
  rw [← el] at h
  clear el
  replace h := qa_push (z := (0 : Int32)) (q := 1) (qa_e rfl h) rfl (by decide)
  obtain ⟨lv, h, g, T⟩ := qa_istore (n := 5) (q := 3) (qa_e rfl h) rfl
  replace g0 := T _ _ g0 (by decide) (Or.inr rfl)
  replace g1 := T _ _ g1 (by decide) (Or.inr rfl)
  replace g2 := T _ _ g2 (by decide) (Or.inr rfl)
  replace g3 := T _ _ g3 (by decide) (Or.inr rfl)
  replace g4 := T _ _ g4 (by decide) (Or.inr rfl)
  have g5 := g
  clear g T
  obtain ⟨r1, er1⟩ : ∃ x, x = (qa_wh (fun s => s) (mc_47_4_p3 N a1 a2 a3 a4) N ((0 : Int32), σ)) := ⟨_, rfl⟩
  have L := md_47_4_p3 (l1 := a1) (l2 := a2) (l3 := a3) (l4 := a4) (F := f) (N := N) (r := r) hN f N hN (Nat.le_refl f) ((0 : Int32), σ) _ _ hM es g0 g1 g2 g3 g4 g5 h
  rw [← er1] at L
  obtain ⟨lv, M, h, hM, es⟩ := L
  have er := qa_rv (qa_e rfl h)
  subst er
  have e0 : ma_47_4 N a1 a2 a3 a4 σ = r1.2 := by exact Eq.trans (qa_ie er1) (rfl)
  rw [e0]
  exact ⟨rfl, hM, es⟩
/-- BuriedBySevens, lookAtGlass, ()V -/
noncomputable def ma_46_3 (N : Nat) (σ : qa_S) : qa_S :=
  qa_in ((ma_47_4 N 7 (-1 : Int32) (0 : Int32) 94 σ)) fun m1 =>
  m1
theorem mb_46_3 {f N : Nat} (hN : f ≤ N) {M : q4_M} {r : Option Value × q4_M} {σ : qa_S} (hM : qa_O M) (es : qa_s M = σ) (h : q4_run f 46 0 (lv_args 0 [.ref 3]) [] M 0 0 = some r) : r.1 = none ∧ qa_O r.2 ∧ qa_s r.2 = (ma_46_3 N σ) := by
  obtain ⟨lv, el⟩ : ∃ l, l = lv_args 0 [.ref 3] := ⟨_, rfl⟩
  have g0 : q4_get lv 0 = some (.ref 3) := by rw [el]; rfl
  rw [← el] at h
  clear el
  replace h := qa_aload (n := 0) (q := 1) (qa_e rfl h) rfl g0
  replace h := qa_gr (b := 4) (j := 0) (q := 4) (qa_e rfl h) rfl hM rfl (by decide)
  replace h := qa_aload (n := 0) (q := 5) (qa_e rfl h) rfl g0
  replace h := qa_gr (b := 4) (j := 0) (q := 8) (qa_e rfl h) rfl hM rfl (by decide)
  replace h := qa_gr (b := 7) (j := 4) (q := 11) (qa_e rfl h) rfl hM rfl (by decide)
  replace h := qa_push (z := (-1 : Int32)) (q := 12) (qa_e rfl h) rfl (by decide)
  replace h := qa_push (z := (0 : Int32)) (q := 13) (qa_e rfl h) rfl (by decide)
  replace h := qa_aload (n := 0) (q := 14) (qa_e rfl h) rfl g0
  replace h := qa_gr (b := 94) (j := 11) (q := 17) (qa_e rfl h) rfl hM rfl (by decide)
  obtain ⟨m1, em1⟩ : ∃ x, x = (ma_47_4 N 7 (-1 : Int32) (0 : Int32) 94 σ) := ⟨_, rfl⟩
  obtain ⟨M, h, hM, es⟩ := qa_c0 (y := 47) (as := [.ref 4, .ref 7, .int ((-1 : Int32)), .int ((0 : Int32)), .ref 94]) (rest := []) (i := .invokevirtual 47) (q := 20) (qa_e rfl h) (Or.inl rfl) rfl rfl (by decide) rfl (fun r hc => mb_47_4 hN hM es hc)
  rw [← em1] at es
  have er := qa_rv (qa_e rfl h)
  subst er
  have e0 : ma_46_3 N σ = m1 := by exact Eq.trans (qa_ie em1) (rfl)
  rw [e0]
  exact ⟨rfl, hM, es⟩
/-- BuriedBySevens, tasteAt, (II)I -/
noncomputable def ma_45_3 (N : Nat) (a1 : Int32) (a2 : Int32) (σ : qa_S) : Int32 × qa_S :=
  if (ma_22_4 a1 σ) = (0 : Int32) then
    qa_in ((ma_46_3 N σ)) fun m2 =>
    ((m2 94 a2.toNatClampNeg), m2)
  else
    ((σ (17 + a1.toNatClampNeg) a2.toNatClampNeg), σ)
theorem mb_45_3 {f N : Nat} (hN : f ≤ N) {M : q4_M} {r : Option Value × q4_M} {σ : qa_S} {a1 : Int32} {a2 : Int32} (hM : qa_O M) (es : qa_s M = σ) (h : q4_run f 45 0 (lv_args 0 [.ref 3, .int (a1), .int (a2)]) [] M 0 0 = some r) : r.1 = some (.int ((ma_45_3 N a1 a2 σ).1)) ∧ qa_O r.2 ∧ qa_s r.2 = (ma_45_3 N a1 a2 σ).2 := by
  obtain ⟨lv, el⟩ : ∃ l, l = lv_args 0 [.ref 3, .int (a1), .int (a2)] := ⟨_, rfl⟩
  have g0 : q4_get lv 0 = some (.ref 3) := by rw [el]; rfl
  have g1 : q4_get lv 1 = some (.int (a1)) := by rw [el]; rfl
  have g2 : q4_get lv 2 = some (.int (a2)) := by rw [el]; rfl
  rw [← el] at h
  clear el
  replace h := qa_aload (n := 0) (q := 1) (qa_e rfl h) rfl g0
  replace h := qa_gr (b := 4) (j := 0) (q := 4) (qa_e rfl h) rfl hM rfl (by decide)
  replace h := qa_iload (n := 1) (q := 5) (qa_e rfl h) rfl g1
  obtain ⟨M, h, hM, es⟩ := qa_c1 (y := 22) (as := [.ref 4, .int (a1)]) (rest := []) (i := .invokevirtual 22) (q := 8) (qa_e rfl h) (Or.inl rfl) rfl rfl (by decide) rfl (fun r hc => mb_22_4 hM es hc)
  by_cases c1 : (ma_22_4 a1 σ) = (0 : Int32)
  · replace h := qa_ict (q := 23) (qa_e rfl h) rfl (qa_T_eq c1)
    replace h := qa_aload (n := 0) (q := 24) (qa_e rfl h) rfl g0
    obtain ⟨m2, em2⟩ : ∃ x, x = (ma_46_3 N σ) := ⟨_, rfl⟩
    obtain ⟨M, h, hM, es⟩ := qa_c0 (y := 46) (as := [.ref 3]) (rest := []) (i := .invokevirtual 46) (q := 27) (qa_e rfl h) (Or.inl rfl) rfl rfl (by decide) rfl (fun r hc => mb_46_3 hN hM es hc)
    rw [← em2] at es
    replace h := qa_aload (n := 0) (q := 28) (qa_e rfl h) rfl g0
    replace h := qa_gr (b := 94) (j := 11) (q := 31) (qa_e rfl h) rfl hM rfl (by decide)
    replace h := qa_iload (n := 2) (q := 32) (qa_e rfl h) rfl g2
    replace h := qa_iaload (jn := a2.toNatClampNeg) (q := 33) (qa_e rfl h) rfl hM es rfl
    have er := qa_ri (qa_e rfl h)
    subst er
    have e0 : ma_45_3 N a1 a2 σ = ((m2 94 a2.toNatClampNeg), m2) := by exact Eq.trans (if_pos c1) (Eq.trans (qa_ie em2) (rfl))
    rw [e0]
    exact ⟨rfl, hM, es⟩
  · replace h := qa_icf (q := 11) (qa_e rfl h) rfl (qa_F_eq c1)
    replace h := qa_aload (n := 0) (q := 12) (qa_e rfl h) rfl g0
    replace h := qa_gr (b := 4) (j := 0) (q := 15) (qa_e rfl h) rfl hM rfl (by decide)
    replace h := qa_gr (b := 16) (j := 6) (q := 18) (qa_e rfl h) rfl hM rfl (by decide)
    replace h := qa_iload (n := 1) (q := 19) (qa_e rfl h) rfl g1
    replace h := qa_aaload (b := 17) (jn := a1.toNatClampNeg) (q := 20) (qa_e rfl h) rfl hM rfl (by decide) (by decide +kernel)
    replace h := qa_iload (n := 2) (q := 21) (qa_e rfl h) rfl g2
    replace h := qa_iaload (jn := a2.toNatClampNeg) (q := 22) (qa_e rfl h) rfl hM es rfl
    have er := qa_ri (qa_e rfl h)
    subst er
    have e0 : ma_45_3 N a1 a2 σ = ((σ (17 + a1.toNatClampNeg) a2.toNatClampNeg), σ) := by exact Eq.trans (if_neg c1) (rfl)
    rw [e0]
    exact ⟨rfl, hM, es⟩
/-- BuriedBySevens, taste, (II)I -/
noncomputable def ma_43_3 (N : Nat) (a1 : Int32) (a2 : Int32) (σ : qa_S) : Int32 × qa_S :=
  if (ma_44_3 a1 σ) = (0 : Int32) then
    qa_in ((ma_9_3 (-1 : Int32) σ)) fun r2 =>
    (r2.1, r2.2)
  else
    if (ma_26 a2) = (0 : Int32) then
      qa_in ((ma_9_3 (-1 : Int32) σ)) fun r4 =>
      (r4.1, r4.2)
    else
      qa_in ((ma_45_3 N a1 a2 σ)) fun r5 =>
      (r5.1, r5.2)
theorem mb_43_3 {f N : Nat} (hN : f ≤ N) {M : q4_M} {r : Option Value × q4_M} {σ : qa_S} {a1 : Int32} {a2 : Int32} (hM : qa_O M) (es : qa_s M = σ) (h : q4_run f 43 0 (lv_args 0 [.ref 3, .int (a1), .int (a2)]) [] M 0 0 = some r) : r.1 = some (.int ((ma_43_3 N a1 a2 σ).1)) ∧ qa_O r.2 ∧ qa_s r.2 = (ma_43_3 N a1 a2 σ).2 := by
  obtain ⟨lv, el⟩ : ∃ l, l = lv_args 0 [.ref 3, .int (a1), .int (a2)] := ⟨_, rfl⟩
  have g0 : q4_get lv 0 = some (.ref 3) := by rw [el]; rfl
  have g1 : q4_get lv 1 = some (.int (a1)) := by rw [el]; rfl
  have g2 : q4_get lv 2 = some (.int (a2)) := by rw [el]; rfl
  rw [← el] at h
  clear el
  replace h := qa_aload (n := 0) (q := 1) (qa_e rfl h) rfl g0
  replace h := qa_iload (n := 1) (q := 2) (qa_e rfl h) rfl g1
  obtain ⟨M, h, hM, es⟩ := qa_c1 (y := 44) (as := [.ref 3, .int (a1)]) (rest := []) (i := .invokevirtual 44) (q := 5) (qa_e rfl h) (Or.inl rfl) rfl rfl (by decide) rfl (fun r hc => mb_44_3 hM es hc)
  by_cases c1 : (ma_44_3 a1 σ) = (0 : Int32)
  · replace h := qa_ict (q := 15) (qa_e rfl h) rfl (qa_T_eq c1)
    replace h := qa_aload (n := 0) (q := 16) (qa_e rfl h) rfl g0
    replace h := qa_push (z := (-1 : Int32)) (q := 17) (qa_e rfl h) rfl (by decide)
    obtain ⟨r2, er2⟩ : ∃ x, x = (ma_9_3 (-1 : Int32) σ) := ⟨_, rfl⟩
    obtain ⟨M, h, hM, es⟩ := qa_c1 (y := 9) (as := [.ref 3, .int ((-1 : Int32))]) (rest := []) (i := .invokevirtual 9) (q := 20) (qa_e rfl h) (Or.inl rfl) rfl rfl (by decide) rfl (fun r hc => mb_9_3 hM es hc)
    rw [← er2] at h es
    have er := qa_ri (qa_e rfl h)
    subst er
    have e0 : ma_43_3 N a1 a2 σ = (r2.1, r2.2) := by exact Eq.trans (if_pos c1) (Eq.trans (qa_ie er2) (rfl))
    rw [e0]
    exact ⟨rfl, hM, es⟩
  · replace h := qa_icf (q := 8) (qa_e rfl h) rfl (qa_F_eq c1)
    replace h := qa_iload (n := 2) (q := 9) (qa_e rfl h) rfl g2
    obtain ⟨M, h, hM, es⟩ := qa_c1 (y := 26) (as := [.int (a2)]) (rest := []) (i := .invokestatic 26) (q := 12) (qa_e rfl h) (Or.inr rfl) rfl rfl (by decide) rfl (fun r hc => mb_26 hM es hc)
    by_cases c3 : (ma_26 a2) = (0 : Int32)
    · replace h := qa_icf (q := 15) (qa_e rfl h) rfl (qa_F_ne c3)
      replace h := qa_aload (n := 0) (q := 16) (qa_e rfl h) rfl g0
      replace h := qa_push (z := (-1 : Int32)) (q := 17) (qa_e rfl h) rfl (by decide)
      obtain ⟨r4, er4⟩ : ∃ x, x = (ma_9_3 (-1 : Int32) σ) := ⟨_, rfl⟩
      obtain ⟨M, h, hM, es⟩ := qa_c1 (y := 9) (as := [.ref 3, .int ((-1 : Int32))]) (rest := []) (i := .invokevirtual 9) (q := 20) (qa_e rfl h) (Or.inl rfl) rfl rfl (by decide) rfl (fun r hc => mb_9_3 hM es hc)
      rw [← er4] at h es
      have er := qa_ri (qa_e rfl h)
      subst er
      have e0 : ma_43_3 N a1 a2 σ = (r4.1, r4.2) := by exact Eq.trans (if_neg c1) (Eq.trans (if_pos c3) (Eq.trans (qa_ie er4) (rfl)))
      rw [e0]
      exact ⟨rfl, hM, es⟩
    · replace h := qa_ict (q := 21) (qa_e rfl h) rfl (qa_T_ne c3)
      replace h := qa_aload (n := 0) (q := 22) (qa_e rfl h) rfl g0
      replace h := qa_iload (n := 1) (q := 23) (qa_e rfl h) rfl g1
      replace h := qa_iload (n := 2) (q := 24) (qa_e rfl h) rfl g2
      obtain ⟨r5, er5⟩ : ∃ x, x = (ma_45_3 N a1 a2 σ) := ⟨_, rfl⟩
      obtain ⟨M, h, hM, es⟩ := qa_c1 (y := 45) (as := [.ref 3, .int (a1), .int (a2)]) (rest := []) (i := .invokevirtual 45) (q := 27) (qa_e rfl h) (Or.inl rfl) rfl rfl (by decide) rfl (fun r hc => mb_45_3 hN hM es hc)
      rw [← er5] at h es
      have er := qa_ri (qa_e rfl h)
      subst er
      have e0 : ma_43_3 N a1 a2 σ = (r5.1, r5.2) := by exact Eq.trans (if_neg c1) (Eq.trans (if_neg c3) (Eq.trans (qa_ie er5) (rfl)))
      rw [e0]
      exact ⟨rfl, hM, es⟩
/-- BuriedBySevens, told, (II)I -/
noncomputable def ma_50 (a0 : Int32) (a1 : Int32) : Int32 :=
  (if (a1 + (1 : Int32)) < (1 : Int32) then a0 else (a0 - (a0 - a0 / (a1 + (1 : Int32)) * (a1 + (1 : Int32)))))
theorem mb_50 {f : Nat} {M : q4_M} {r : Option Value × q4_M} {σ : qa_S} {a0 : Int32} {a1 : Int32} (hM : qa_O M) (es : qa_s M = σ) (h : q4_run f 50 0 (lv_args 0 [.int (a0), .int (a1)]) [] M 0 0 = some r) : r.1 = some (.int ((ma_50 a0 a1))) ∧ qa_O r.2 ∧ qa_s r.2 = σ := by
  obtain ⟨lv, el⟩ : ∃ l, l = lv_args 0 [.int (a0), .int (a1)] := ⟨_, rfl⟩
  have g0 : q4_get lv 0 = some (.int (a0)) := by rw [el]; rfl
  have g1 : q4_get lv 1 = some (.int (a1)) := by rw [el]; rfl
  rw [← el] at h
  clear el
  replace h := qa_iload (n := 1) (q := 1) (qa_e rfl h) rfl g1
  replace h := qa_push (z := (1 : Int32)) (q := 2) (qa_e rfl h) rfl (by decide)
  replace h := qa_iadd (q := 3) (qa_e rfl h) rfl
  obtain ⟨lv, h, g, T⟩ := qa_istore (n := 2) (q := 4) (qa_e rfl h) rfl
  replace g0 := T _ _ g0 (by decide) (Or.inr rfl)
  have g2 := g
  clear g T
  replace h := qa_iload (n := 2) (q := 5) (qa_e rfl h) rfl g2
  replace h := qa_push (z := (1 : Int32)) (q := 6) (qa_e rfl h) rfl (by decide)
  obtain ⟨lv, M, h, hM, es⟩ : ∃ lv M, q4_run f 50 18 lv [.int ((if (a1 + (1 : Int32)) < (1 : Int32) then a0 else (a0 - (a0 - a0 / (a1 + (1 : Int32)) * (a1 + (1 : Int32))))))] M 0 0 = some r ∧ qa_O M ∧ qa_s M = σ := by
    by_cases c1 : (a1 + (1 : Int32)) < (1 : Int32)
    · replace h := qa_iff (q := 9) (qa_e rfl h) rfl (qa_F_ge c1)
      replace h := qa_iload (n := 0) (q := 10) (qa_e rfl h) rfl g0
      replace h := qa_goto (q := 18) (qa_e rfl h) rfl
      exact ⟨lv, M, (qa_hi1 c1 h), hM, es⟩
    · replace h := qa_ift (q := 13) (qa_e rfl h) rfl (qa_T_ge c1)
      replace h := qa_iload (n := 0) (q := 14) (qa_e rfl h) rfl g0
      replace h := qa_iload (n := 0) (q := 15) (qa_e rfl h) rfl g0
      replace h := qa_iload (n := 2) (q := 16) (qa_e rfl h) rfl g2
      replace h := qa_irem (q := 17) (qa_e rfl h) rfl
      replace h := qa_isub (q := 18) (qa_e rfl h) rfl
      exact ⟨lv, M, (qa_hi0 c1 h), hM, es⟩
  have er := qa_ri (qa_e rfl h)
  subst er
  have e0 : ma_50 a0 a1 = (if (a1 + (1 : Int32)) < (1 : Int32) then a0 else (a0 - (a0 - a0 / (a1 + (1 : Int32)) * (a1 + (1 : Int32))))) := by exact rfl
  rw [e0]
  exact ⟨rfl, hM, es⟩
/-- BuriedBySevens, tells, (III)I -/
noncomputable def ma_49_3 (N : Nat) (a1 : Int32) (a2 : Int32) (a3 : Int32) (σ : qa_S) : Int32 × qa_S :=
  if (ma_33_4 a1 σ) = (0 : Int32) then
    qa_in ((ma_9_3 (-1 : Int32) σ)) fun r2 =>
    (r2.1, r2.2)
  else
    if (ma_44_3 a2 σ) = (0 : Int32) then
      qa_in ((ma_9_3 (-1 : Int32) σ)) fun r4 =>
      (r4.1, r4.2)
    else
      if (ma_26 a3) = (0 : Int32) then
        qa_in ((ma_9_3 (-1 : Int32) σ)) fun r6 =>
        (r6.1, r6.2)
      else
        if (ma_48 (σ 24 a1.toNatClampNeg) a3) = (0 : Int32) then
          ((-9 : Int32), σ)
        else
          qa_in ((ma_45_3 N a2 a3 σ)) fun r8 =>
          ((ma_50 r8.1 (r8.2 25 a1.toNatClampNeg)), r8.2)
theorem mb_49_3 {f N : Nat} (hN : f ≤ N) {M : q4_M} {r : Option Value × q4_M} {σ : qa_S} {a1 : Int32} {a2 : Int32} {a3 : Int32} (hM : qa_O M) (es : qa_s M = σ) (h : q4_run f 49 0 (lv_args 0 [.ref 3, .int (a1), .int (a2), .int (a3)]) [] M 0 0 = some r) : r.1 = some (.int ((ma_49_3 N a1 a2 a3 σ).1)) ∧ qa_O r.2 ∧ qa_s r.2 = (ma_49_3 N a1 a2 a3 σ).2 := by
  obtain ⟨lv, el⟩ : ∃ l, l = lv_args 0 [.ref 3, .int (a1), .int (a2), .int (a3)] := ⟨_, rfl⟩
  have g0 : q4_get lv 0 = some (.ref 3) := by rw [el]; rfl
  have g1 : q4_get lv 1 = some (.int (a1)) := by rw [el]; rfl
  have g2 : q4_get lv 2 = some (.int (a2)) := by rw [el]; rfl
  have g3 : q4_get lv 3 = some (.int (a3)) := by rw [el]; rfl
  rw [← el] at h
  clear el
  replace h := qa_aload (n := 0) (q := 1) (qa_e rfl h) rfl g0
  replace h := qa_gr (b := 4) (j := 0) (q := 4) (qa_e rfl h) rfl hM rfl (by decide)
  replace h := qa_iload (n := 1) (q := 5) (qa_e rfl h) rfl g1
  obtain ⟨M, h, hM, es⟩ := qa_c1 (y := 33) (as := [.ref 4, .int (a1)]) (rest := []) (i := .invokevirtual 33) (q := 8) (qa_e rfl h) (Or.inl rfl) rfl rfl (by decide) rfl (fun r hc => mb_33_4 hM es hc)
  by_cases c1 : (ma_33_4 a1 σ) = (0 : Int32)
  · replace h := qa_ict (q := 26) (qa_e rfl h) rfl (qa_T_eq c1)
    replace h := qa_aload (n := 0) (q := 27) (qa_e rfl h) rfl g0
    replace h := qa_push (z := (-1 : Int32)) (q := 28) (qa_e rfl h) rfl (by decide)
    obtain ⟨r2, er2⟩ : ∃ x, x = (ma_9_3 (-1 : Int32) σ) := ⟨_, rfl⟩
    obtain ⟨M, h, hM, es⟩ := qa_c1 (y := 9) (as := [.ref 3, .int ((-1 : Int32))]) (rest := []) (i := .invokevirtual 9) (q := 31) (qa_e rfl h) (Or.inl rfl) rfl rfl (by decide) rfl (fun r hc => mb_9_3 hM es hc)
    rw [← er2] at h es
    have er := qa_ri (qa_e rfl h)
    subst er
    have e0 : ma_49_3 N a1 a2 a3 σ = (r2.1, r2.2) := by exact Eq.trans (if_pos c1) (Eq.trans (qa_ie er2) (rfl))
    rw [e0]
    exact ⟨rfl, hM, es⟩
  · replace h := qa_icf (q := 11) (qa_e rfl h) rfl (qa_F_eq c1)
    replace h := qa_aload (n := 0) (q := 12) (qa_e rfl h) rfl g0
    replace h := qa_iload (n := 2) (q := 13) (qa_e rfl h) rfl g2
    obtain ⟨M, h, hM, es⟩ := qa_c1 (y := 44) (as := [.ref 3, .int (a2)]) (rest := []) (i := .invokevirtual 44) (q := 16) (qa_e rfl h) (Or.inl rfl) rfl rfl (by decide) rfl (fun r hc => mb_44_3 hM es hc)
    by_cases c3 : (ma_44_3 a2 σ) = (0 : Int32)
    · replace h := qa_ict (q := 26) (qa_e rfl h) rfl (qa_T_eq c3)
      replace h := qa_aload (n := 0) (q := 27) (qa_e rfl h) rfl g0
      replace h := qa_push (z := (-1 : Int32)) (q := 28) (qa_e rfl h) rfl (by decide)
      obtain ⟨r4, er4⟩ : ∃ x, x = (ma_9_3 (-1 : Int32) σ) := ⟨_, rfl⟩
      obtain ⟨M, h, hM, es⟩ := qa_c1 (y := 9) (as := [.ref 3, .int ((-1 : Int32))]) (rest := []) (i := .invokevirtual 9) (q := 31) (qa_e rfl h) (Or.inl rfl) rfl rfl (by decide) rfl (fun r hc => mb_9_3 hM es hc)
      rw [← er4] at h es
      have er := qa_ri (qa_e rfl h)
      subst er
      have e0 : ma_49_3 N a1 a2 a3 σ = (r4.1, r4.2) := by exact Eq.trans (if_neg c1) (Eq.trans (if_pos c3) (Eq.trans (qa_ie er4) (rfl)))
      rw [e0]
      exact ⟨rfl, hM, es⟩
    · replace h := qa_icf (q := 19) (qa_e rfl h) rfl (qa_F_eq c3)
      replace h := qa_iload (n := 3) (q := 20) (qa_e rfl h) rfl g3
      obtain ⟨M, h, hM, es⟩ := qa_c1 (y := 26) (as := [.int (a3)]) (rest := []) (i := .invokestatic 26) (q := 23) (qa_e rfl h) (Or.inr rfl) rfl rfl (by decide) rfl (fun r hc => mb_26 hM es hc)
      by_cases c5 : (ma_26 a3) = (0 : Int32)
      · replace h := qa_icf (q := 26) (qa_e rfl h) rfl (qa_F_ne c5)
        replace h := qa_aload (n := 0) (q := 27) (qa_e rfl h) rfl g0
        replace h := qa_push (z := (-1 : Int32)) (q := 28) (qa_e rfl h) rfl (by decide)
        obtain ⟨r6, er6⟩ : ∃ x, x = (ma_9_3 (-1 : Int32) σ) := ⟨_, rfl⟩
        obtain ⟨M, h, hM, es⟩ := qa_c1 (y := 9) (as := [.ref 3, .int ((-1 : Int32))]) (rest := []) (i := .invokevirtual 9) (q := 31) (qa_e rfl h) (Or.inl rfl) rfl rfl (by decide) rfl (fun r hc => mb_9_3 hM es hc)
        rw [← er6] at h es
        have er := qa_ri (qa_e rfl h)
        subst er
        have e0 : ma_49_3 N a1 a2 a3 σ = (r6.1, r6.2) := by exact Eq.trans (if_neg c1) (Eq.trans (if_neg c3) (Eq.trans (if_pos c5) (Eq.trans (qa_ie er6) (rfl))))
        rw [e0]
        exact ⟨rfl, hM, es⟩
      · replace h := qa_ict (q := 32) (qa_e rfl h) rfl (qa_T_ne c5)
        replace h := qa_aload (n := 0) (q := 33) (qa_e rfl h) rfl g0
        replace h := qa_gr (b := 4) (j := 0) (q := 36) (qa_e rfl h) rfl hM rfl (by decide)
        replace h := qa_gr (b := 24) (j := 7) (q := 39) (qa_e rfl h) rfl hM rfl (by decide)
        replace h := qa_iload (n := 1) (q := 40) (qa_e rfl h) rfl g1
        replace h := qa_iaload (jn := a1.toNatClampNeg) (q := 41) (qa_e rfl h) rfl hM es rfl
        replace h := qa_iload (n := 3) (q := 42) (qa_e rfl h) rfl g3
        obtain ⟨M, h, hM, es⟩ := qa_c1 (y := 48) (as := [.int ((σ 24 a1.toNatClampNeg)), .int (a3)]) (rest := []) (i := .invokestatic 48) (q := 45) (qa_e rfl h) (Or.inr rfl) rfl rfl (by decide) rfl (fun r hc => mb_48 hM es hc)
        by_cases c7 : (ma_48 (σ 24 a1.toNatClampNeg) a3) = (0 : Int32)
        · replace h := qa_icf (q := 48) (qa_e rfl h) rfl (qa_F_ne c7)
          replace h := qa_push (z := (-9 : Int32)) (q := 50) (qa_e rfl h) rfl (by decide)
          have er := qa_ri (qa_e rfl h)
          subst er
          have e0 : ma_49_3 N a1 a2 a3 σ = ((-9 : Int32), σ) := by exact Eq.trans (if_neg c1) (Eq.trans (if_neg c3) (Eq.trans (if_neg c5) (Eq.trans (if_pos c7) (rfl))))
          rw [e0]
          exact ⟨rfl, hM, es⟩
        · replace h := qa_ict (q := 51) (qa_e rfl h) rfl (qa_T_ne c7)
          replace h := qa_aload (n := 0) (q := 52) (qa_e rfl h) rfl g0
          replace h := qa_iload (n := 2) (q := 53) (qa_e rfl h) rfl g2
          replace h := qa_iload (n := 3) (q := 54) (qa_e rfl h) rfl g3
          obtain ⟨r8, er8⟩ : ∃ x, x = (ma_45_3 N a2 a3 σ) := ⟨_, rfl⟩
          obtain ⟨M, h, hM, es⟩ := qa_c1 (y := 45) (as := [.ref 3, .int (a2), .int (a3)]) (rest := []) (i := .invokevirtual 45) (q := 57) (qa_e rfl h) (Or.inl rfl) rfl rfl (by decide) rfl (fun r hc => mb_45_3 hN hM es hc)
          rw [← er8] at h es
          replace h := qa_aload (n := 0) (q := 58) (qa_e rfl h) rfl g0
          replace h := qa_gr (b := 4) (j := 0) (q := 61) (qa_e rfl h) rfl hM rfl (by decide)
          replace h := qa_gr (b := 25) (j := 8) (q := 64) (qa_e rfl h) rfl hM rfl (by decide)
          replace h := qa_iload (n := 1) (q := 65) (qa_e rfl h) rfl g1
          replace h := qa_iaload (jn := a1.toNatClampNeg) (q := 66) (qa_e rfl h) rfl hM es rfl
          obtain ⟨M, h, hM, es⟩ := qa_c1 (y := 50) (as := [.int (r8.1), .int ((r8.2 25 a1.toNatClampNeg))]) (rest := []) (i := .invokestatic 50) (q := 69) (qa_e rfl h) (Or.inr rfl) rfl rfl (by decide) rfl (fun r hc => mb_50 hM es hc)
          have er := qa_ri (qa_e rfl h)
          subst er
          have e0 : ma_49_3 N a1 a2 a3 σ = ((ma_50 r8.1 (r8.2 25 a1.toNatClampNeg)), r8.2) := by exact Eq.trans (if_neg c1) (Eq.trans (if_neg c3) (Eq.trans (if_neg c5) (Eq.trans (if_neg c7) (Eq.trans (qa_ie er8) (rfl)))))
          rw [e0]
          exact ⟨rfl, hM, es⟩
/-- BuriedBySevens, isTwo, (II)Z -/
noncomputable def ma_52_3 (a1 : Int32) (a2 : Int32) (σ : qa_S) : Int32 :=
  (if (ma_22_4 a1 σ) = (0 : Int32) then (0 : Int32) else (if (ma_22_4 a2 σ) = (0 : Int32) then (0 : Int32) else (if a1 = a2 then (0 : Int32) else (1 : Int32))))
theorem mb_52_3 {f : Nat} {M : q4_M} {r : Option Value × q4_M} {σ : qa_S} {a1 : Int32} {a2 : Int32} (hM : qa_O M) (es : qa_s M = σ) (h : q4_run f 52 0 (lv_args 0 [.ref 3, .int (a1), .int (a2)]) [] M 0 0 = some r) : r.1 = some (.int ((ma_52_3 a1 a2 σ))) ∧ qa_O r.2 ∧ qa_s r.2 = σ := by
  obtain ⟨lv, el⟩ : ∃ l, l = lv_args 0 [.ref 3, .int (a1), .int (a2)] := ⟨_, rfl⟩
  have g0 : q4_get lv 0 = some (.ref 3) := by rw [el]; rfl
  have g1 : q4_get lv 1 = some (.int (a1)) := by rw [el]; rfl
  have g2 : q4_get lv 2 = some (.int (a2)) := by rw [el]; rfl
  rw [← el] at h
  clear el
  replace h := qa_aload (n := 0) (q := 1) (qa_e rfl h) rfl g0
  replace h := qa_gr (b := 4) (j := 0) (q := 4) (qa_e rfl h) rfl hM rfl (by decide)
  replace h := qa_iload (n := 1) (q := 5) (qa_e rfl h) rfl g1
  obtain ⟨M, h, hM, es⟩ := qa_c1 (y := 22) (as := [.ref 4, .int (a1)]) (rest := []) (i := .invokevirtual 22) (q := 8) (qa_e rfl h) (Or.inl rfl) rfl rfl (by decide) rfl (fun r hc => mb_22_4 hM es hc)
  obtain ⟨lv, M, h, hM, es⟩ : ∃ lv M, q4_run f 52 32 lv [.int ((if (ma_22_4 a1 σ) = (0 : Int32) then (0 : Int32) else (if (ma_22_4 a2 σ) = (0 : Int32) then (0 : Int32) else (if a1 = a2 then (0 : Int32) else (1 : Int32)))))] M 0 0 = some r ∧ qa_O M ∧ qa_s M = σ := by
    by_cases c1 : (ma_22_4 a1 σ) = (0 : Int32)
    · replace h := qa_ict (q := 31) (qa_e rfl h) rfl (qa_T_eq c1)
      replace h := qa_push (z := (0 : Int32)) (q := 32) (qa_e rfl h) rfl (by decide)
      exact ⟨lv, M, (qa_hi1 c1 h), hM, es⟩
    · replace h := qa_icf (q := 11) (qa_e rfl h) rfl (qa_F_eq c1)
      replace h := qa_aload (n := 0) (q := 12) (qa_e rfl h) rfl g0
      replace h := qa_gr (b := 4) (j := 0) (q := 15) (qa_e rfl h) rfl hM rfl (by decide)
      replace h := qa_iload (n := 2) (q := 16) (qa_e rfl h) rfl g2
      obtain ⟨M, h, hM, es⟩ := qa_c1 (y := 22) (as := [.ref 4, .int (a2)]) (rest := []) (i := .invokevirtual 22) (q := 19) (qa_e rfl h) (Or.inl rfl) rfl rfl (by decide) rfl (fun r hc => mb_22_4 hM es hc)
      obtain ⟨lv, M, h, hM, es⟩ : ∃ lv M, q4_run f 52 32 lv [.int ((if (ma_22_4 a2 σ) = (0 : Int32) then (0 : Int32) else (if a1 = a2 then (0 : Int32) else (1 : Int32))))] M 0 0 = some r ∧ qa_O M ∧ qa_s M = σ := by
        by_cases c2 : (ma_22_4 a2 σ) = (0 : Int32)
        · replace h := qa_ict (q := 31) (qa_e rfl h) rfl (qa_T_eq c2)
          replace h := qa_push (z := (0 : Int32)) (q := 32) (qa_e rfl h) rfl (by decide)
          exact ⟨lv, M, (qa_hi1 c2 h), hM, es⟩
        · replace h := qa_icf (q := 22) (qa_e rfl h) rfl (qa_F_eq c2)
          replace h := qa_iload (n := 1) (q := 23) (qa_e rfl h) rfl g1
          replace h := qa_iload (n := 2) (q := 24) (qa_e rfl h) rfl g2
          obtain ⟨lv, M, h, hM, es⟩ : ∃ lv M, q4_run f 52 32 lv [.int ((if a1 = a2 then (0 : Int32) else (1 : Int32)))] M 0 0 = some r ∧ qa_O M ∧ qa_s M = σ := by
            by_cases c3 : a1 = a2
            · replace h := qa_ift (q := 31) (qa_e rfl h) rfl (qa_T_eq c3)
              replace h := qa_push (z := (0 : Int32)) (q := 32) (qa_e rfl h) rfl (by decide)
              exact ⟨lv, M, (qa_hi1 c3 h), hM, es⟩
            · replace h := qa_iff (q := 27) (qa_e rfl h) rfl (qa_F_eq c3)
              replace h := qa_push (z := (1 : Int32)) (q := 28) (qa_e rfl h) rfl (by decide)
              replace h := qa_goto (q := 32) (qa_e rfl h) rfl
              exact ⟨lv, M, (qa_hi0 c3 h), hM, es⟩
          exact ⟨lv, M, (qa_hi0 c2 h), hM, es⟩
      exact ⟨lv, M, (qa_hi0 c1 h), hM, es⟩
  have er := qa_ri (qa_e rfl h)
  subst er
  have e0 : ma_52_3 a1 a2 σ = (if (ma_22_4 a1 σ) = (0 : Int32) then (0 : Int32) else (if (ma_22_4 a2 σ) = (0 : Int32) then (0 : Int32) else (if a1 = a2 then (0 : Int32) else (1 : Int32)))) := by exact rfl
  rw [e0]
  exact ⟨rfl, hM, es⟩
noncomputable def mc_55_p6 (N : Nat) (l0 : Int32) (l1 : Int32) (l2 : Nat) (l3 : Nat) (σ : qa_S) (s : Int32 × Int32) : (Int32 × Int32) ⊕ (Int32 × Int32) :=
  if s.1 < (4 : Int32) then
    .inl ((s.1 + (1 : Int32)), (if (ma_48 l0 s.1) = (0 : Int32) then s.2 else (if (ma_50 (σ l2 s.1.toNatClampNeg) l1) = (ma_50 (σ l3 s.1.toNatClampNeg) l1) then s.2 else (s.2 ||| ((1 : Int32) <<< (s.1 &&& 31))))))
  else
    .inr (s.1, s.2)
theorem md_55_p6 {N F : Nat} {r : Option Value × q4_M} {l0 : Int32} {l1 : Int32} {l2 : Nat} {l3 : Nat} {σ : qa_S} (hN : F ≤ N) : ∀ f n, f ≤ n → f ≤ F → ∀ (s : Int32 × Int32) (lv : List (Nat × Value)) (M : q4_M), qa_O M → qa_s M = σ → q4_get lv 0 = some (.int (l0)) → q4_get lv 1 = some (.int (l1)) → q4_get lv 2 = some (.ref (l2)) → q4_get lv 3 = some (.ref (l3)) → q4_get lv 4 = some (.int (s.2)) → q4_get lv 5 = some (.int (s.1)) → q4_run f 55 6 lv [] M 0 0 = some r → ∃ lv M, q4_run F 55 55 lv [] M 0 0 = some r ∧ qa_O M ∧ qa_s M = σ ∧ q4_get lv 4 = some (.int ((qa_wh (fun s => s) (mc_55_p6 N l0 l1 l2 l3 σ) n s).2)) := by
  intro f
  induction f with
  | zero => intro n _ _ s lv M hM es _ _ _ _ _ _ h; cases h
  | succ f ih =>
    intro n hn hF s lv M hM es g0 g1 g2 g3 g4 g5 h
    obtain ⟨n, rfl⟩ : ∃ n1, n = n1 + 1 := ⟨n - 1, by omega⟩
    replace hn : f ≤ n := Nat.le_of_succ_le_succ hn
    have hN := Nat.le_trans (Nat.le_of_succ_le hF) hN
    replace h := qa_iload (n := 5) (q := 8) (qa_d rfl h) rfl g5
    replace h := qa_push (z := (4 : Int32)) (q := 9) (qa_e rfl h) rfl (by decide)
    by_cases c1 : s.1 < (4 : Int32)
    · replace h := qa_iff (q := 12) (qa_e rfl h) rfl (qa_F_ge c1)
      replace h := qa_iload (n := 0) (q := 13) (qa_e rfl h) rfl g0
      replace h := qa_iload (n := 5) (q := 15) (qa_e rfl h) rfl g5
      obtain ⟨M, h, hM, es⟩ := qa_c1 (y := 48) (as := [.int (l0), .int (s.1)]) (rest := []) (i := .invokestatic 48) (q := 18) (qa_e rfl h) (Or.inr rfl) rfl rfl (by decide) rfl (fun r hc => mb_48 hM es hc)
      obtain ⟨lv, M, h, hM, es, g0, g1, g2, g3, g4, g5⟩ : ∃ lv M, q4_run f 55 49 lv [] M 0 0 = some r ∧ qa_O M ∧ qa_s M = σ ∧ q4_get lv 0 = some (.int (l0)) ∧ q4_get lv 1 = some (.int (l1)) ∧ q4_get lv 2 = some (.ref (l2)) ∧ q4_get lv 3 = some (.ref (l3)) ∧ q4_get lv 4 = some (.int ((if (ma_48 l0 s.1) = (0 : Int32) then s.2 else (if (ma_50 (σ l2 s.1.toNatClampNeg) l1) = (ma_50 (σ l3 s.1.toNatClampNeg) l1) then s.2 else (s.2 ||| ((1 : Int32) <<< (s.1 &&& 31))))))) ∧ q4_get lv 5 = some (.int (s.1)) := by
        by_cases c2 : (ma_48 l0 s.1) = (0 : Int32)
        · replace h := qa_ict (q := 49) (qa_e rfl h) rfl (qa_T_eq c2)
          exact ⟨lv, M, h, hM, es, g0, g1, g2, g3, (qa_gi1 c2 g4), g5⟩
        · replace h := qa_icf (q := 21) (qa_e rfl h) rfl (qa_F_eq c2)
          replace h := qa_aload (n := 2) (q := 22) (qa_e rfl h) rfl g2
          replace h := qa_iload (n := 5) (q := 24) (qa_e rfl h) rfl g5
          replace h := qa_iaload (jn := s.1.toNatClampNeg) (q := 25) (qa_e rfl h) rfl hM es rfl
          replace h := qa_iload (n := 1) (q := 26) (qa_e rfl h) rfl g1
          obtain ⟨M, h, hM, es⟩ := qa_c1 (y := 50) (as := [.int ((σ l2 s.1.toNatClampNeg)), .int (l1)]) (rest := []) (i := .invokestatic 50) (q := 29) (qa_e rfl h) (Or.inr rfl) rfl rfl (by decide) rfl (fun r hc => mb_50 hM es hc)
          replace h := qa_aload (n := 3) (q := 30) (qa_e rfl h) rfl g3
          replace h := qa_iload (n := 5) (q := 32) (qa_e rfl h) rfl g5
          replace h := qa_iaload (jn := s.1.toNatClampNeg) (q := 33) (qa_e rfl h) rfl hM es rfl
          replace h := qa_iload (n := 1) (q := 34) (qa_e rfl h) rfl g1
          obtain ⟨M, h, hM, es⟩ := qa_c1 (y := 50) (as := [.int ((σ l3 s.1.toNatClampNeg)), .int (l1)]) (rest := [.int ((ma_50 (σ l2 s.1.toNatClampNeg) l1))]) (i := .invokestatic 50) (q := 37) (qa_e rfl h) (Or.inr rfl) rfl rfl (by decide) rfl (fun r hc => mb_50 hM es hc)
          obtain ⟨lv, M, h, hM, es, g0, g1, g2, g3, g4, g5⟩ : ∃ lv M, q4_run f 55 49 lv [] M 0 0 = some r ∧ qa_O M ∧ qa_s M = σ ∧ q4_get lv 0 = some (.int (l0)) ∧ q4_get lv 1 = some (.int (l1)) ∧ q4_get lv 2 = some (.ref (l2)) ∧ q4_get lv 3 = some (.ref (l3)) ∧ q4_get lv 4 = some (.int ((if (ma_50 (σ l2 s.1.toNatClampNeg) l1) = (ma_50 (σ l3 s.1.toNatClampNeg) l1) then s.2 else (s.2 ||| ((1 : Int32) <<< (s.1 &&& 31)))))) ∧ q4_get lv 5 = some (.int (s.1)) := by
            by_cases c3 : (ma_50 (σ l2 s.1.toNatClampNeg) l1) = (ma_50 (σ l3 s.1.toNatClampNeg) l1)
            · replace h := qa_ift (q := 49) (qa_e rfl h) rfl (qa_T_eq c3)
              exact ⟨lv, M, h, hM, es, g0, g1, g2, g3, (qa_gi1 c3 g4), g5⟩
            · replace h := qa_iff (q := 40) (qa_e rfl h) rfl (qa_F_eq c3)
              replace h := qa_iload (n := 4) (q := 42) (qa_e rfl h) rfl g4
              replace h := qa_push (z := (1 : Int32)) (q := 43) (qa_e rfl h) rfl (by decide)
              replace h := qa_iload (n := 5) (q := 45) (qa_e rfl h) rfl g5
              replace h := qa_ishl (q := 46) (qa_e rfl h) rfl
              replace h := qa_ior (q := 47) (qa_e rfl h) rfl
              obtain ⟨lv, h, g, T⟩ := qa_istore (n := 4) (q := 49) (qa_e rfl h) rfl
              replace g0 := T _ _ g0 (by decide) (Or.inr rfl)
              replace g1 := T _ _ g1 (by decide) (Or.inr rfl)
              replace g2 := T _ _ g2 (by decide) (Or.inr rfl)
              replace g3 := T _ _ g3 (by decide) (Or.inr rfl)
              replace g5 := T _ _ g5 (by decide) (Or.inr rfl)
              have g4 := g
              clear g T
              exact ⟨lv, M, h, hM, es, g0, g1, g2, g3, (qa_gi0 c3 g4), g5⟩
          exact ⟨lv, M, h, hM, es, g0, g1, g2, g3, (qa_gi0 c2 g4), g5⟩
      obtain ⟨lv, h, g, T⟩ := qa_iinc (n := 5) (z := (1 : Int32)) (q := 52) (qa_e rfl h) rfl (by decide) g5
      replace g0 := T _ _ g0 (by decide) (Or.inr rfl)
      replace g1 := T _ _ g1 (by decide) (Or.inr rfl)
      replace g2 := T _ _ g2 (by decide) (Or.inr rfl)
      replace g3 := T _ _ g3 (by decide) (Or.inr rfl)
      replace g4 := T _ _ g4 (by decide) (Or.inr rfl)
      replace g5 := g
      clear g T
      replace h := qa_goto (q := 6) (qa_e rfl h) rfl
      have e0 : mc_55_p6 N l0 l1 l2 l3 σ s = .inl ((s.1 + (1 : Int32)), (if (ma_48 l0 s.1) = (0 : Int32) then s.2 else (if (ma_50 (σ l2 s.1.toNatClampNeg) l1) = (ma_50 (σ l3 s.1.toNatClampNeg) l1) then s.2 else (s.2 ||| ((1 : Int32) <<< (s.1 &&& 31)))))) := by exact Eq.trans (if_pos c1) (rfl)
      rw [qa_whl e0]
      exact ih n hn (Nat.le_of_succ_le hF) ((s.1 + (1 : Int32)), (if (ma_48 l0 s.1) = (0 : Int32) then s.2 else (if (ma_50 (σ l2 s.1.toNatClampNeg) l1) = (ma_50 (σ l3 s.1.toNatClampNeg) l1) then s.2 else (s.2 ||| ((1 : Int32) <<< (s.1 &&& 31)))))) _ _ hM es g0 g1 g2 g3 g4 g5 h
    · replace h := qa_ift (q := 55) (qa_e rfl h) rfl (qa_T_ge c1)
      have e0 : mc_55_p6 N l0 l1 l2 l3 σ s = .inr (s.1, s.2) := by exact Eq.trans (if_neg c1) (rfl)
      rw [qa_whr e0]
      exact ⟨_, _, q61_mono f F _ _ _ _ _ _ _ _ (Nat.le_of_succ_le hF) h, hM, es, g4⟩
/-- BuriedBySevens, unlikeMarks, (II[I[I)I -/
noncomputable def ma_55 (N : Nat) (a0 : Int32) (a1 : Int32) (a2 : Nat) (a3 : Nat) (σ : qa_S) : Int32 :=
  qa_in ((qa_wh (fun s => s) (mc_55_p6 N a0 a1 a2 a3 σ) N ((0 : Int32), (0 : Int32)))) fun r1 =>
  r1.2
theorem mb_55 {f N : Nat} (hN : f ≤ N) {M : q4_M} {r : Option Value × q4_M} {σ : qa_S} {a0 : Int32} {a1 : Int32} {a2 : Nat} {a3 : Nat} (hM : qa_O M) (es : qa_s M = σ) (h : q4_run f 55 0 (lv_args 0 [.int (a0), .int (a1), .ref (a2), .ref (a3)]) [] M 0 0 = some r) : r.1 = some (.int ((ma_55 N a0 a1 a2 a3 σ))) ∧ qa_O r.2 ∧ qa_s r.2 = σ := by
  obtain ⟨lv, el⟩ : ∃ l, l = lv_args 0 [.int (a0), .int (a1), .ref (a2), .ref (a3)] := ⟨_, rfl⟩
  have g0 : q4_get lv 0 = some (.int (a0)) := by rw [el]; rfl
  have g1 : q4_get lv 1 = some (.int (a1)) := by rw [el]; rfl
  have g2 : q4_get lv 2 = some (.ref (a2)) := by rw [el]; rfl
  have g3 : q4_get lv 3 = some (.ref (a3)) := by rw [el]; rfl
  rw [← el] at h
  clear el
  replace h := qa_push (z := (0 : Int32)) (q := 1) (qa_e rfl h) rfl (by decide)
  obtain ⟨lv, h, g, T⟩ := qa_istore (n := 4) (q := 3) (qa_e rfl h) rfl
  replace g0 := T _ _ g0 (by decide) (Or.inr rfl)
  replace g1 := T _ _ g1 (by decide) (Or.inr rfl)
  replace g2 := T _ _ g2 (by decide) (Or.inr rfl)
  replace g3 := T _ _ g3 (by decide) (Or.inr rfl)
  have g4 := g
  clear g T
  replace h := qa_push (z := (0 : Int32)) (q := 4) (qa_e rfl h) rfl (by decide)
  obtain ⟨lv, h, g, T⟩ := qa_istore (n := 5) (q := 6) (qa_e rfl h) rfl
  replace g0 := T _ _ g0 (by decide) (Or.inr rfl)
  replace g1 := T _ _ g1 (by decide) (Or.inr rfl)
  replace g2 := T _ _ g2 (by decide) (Or.inr rfl)
  replace g3 := T _ _ g3 (by decide) (Or.inr rfl)
  replace g4 := T _ _ g4 (by decide) (Or.inr rfl)
  have g5 := g
  clear g T
  obtain ⟨r1, er1⟩ : ∃ x, x = (qa_wh (fun s => s) (mc_55_p6 N a0 a1 a2 a3 σ) N ((0 : Int32), (0 : Int32))) := ⟨_, rfl⟩
  have L := md_55_p6 (l0 := a0) (l1 := a1) (l2 := a2) (l3 := a3) (σ := σ) (F := f) (N := N) (r := r) hN f N hN (Nat.le_refl f) ((0 : Int32), (0 : Int32)) _ _ hM es g0 g1 g2 g3 g4 g5 h
  rw [← er1] at L
  obtain ⟨lv, M, h, hM, es, g4⟩ := L
  replace h := qa_iload (n := 4) (q := 57) (qa_e rfl h) rfl g4
  have er := qa_ri (qa_e rfl h)
  subst er
  have e0 : ma_55 N a0 a1 a2 a3 σ = r1.2 := by exact Eq.trans (qa_ie er1) (rfl)
  rw [e0]
  exact ⟨rfl, hM, es⟩
/-- BuriedBySevens, marksApart, (I[I[I)I -/
noncomputable def ma_54_3 (N : Nat) (a1 : Int32) (a2 : Nat) (a3 : Nat) (σ : qa_S) : Int32 :=
  qa_in ((ma_55 N (σ 24 a1.toNatClampNeg) (σ 25 a1.toNatClampNeg) a2 a3 σ)) fun r1 =>
  r1
theorem mb_54_3 {f N : Nat} (hN : f ≤ N) {M : q4_M} {r : Option Value × q4_M} {σ : qa_S} {a1 : Int32} {a2 : Nat} {a3 : Nat} (hM : qa_O M) (es : qa_s M = σ) (h : q4_run f 54 0 (lv_args 0 [.ref 3, .int (a1), .ref (a2), .ref (a3)]) [] M 0 0 = some r) : r.1 = some (.int ((ma_54_3 N a1 a2 a3 σ))) ∧ qa_O r.2 ∧ qa_s r.2 = σ := by
  obtain ⟨lv, el⟩ : ∃ l, l = lv_args 0 [.ref 3, .int (a1), .ref (a2), .ref (a3)] := ⟨_, rfl⟩
  have g0 : q4_get lv 0 = some (.ref 3) := by rw [el]; rfl
  have g1 : q4_get lv 1 = some (.int (a1)) := by rw [el]; rfl
  have g2 : q4_get lv 2 = some (.ref (a2)) := by rw [el]; rfl
  have g3 : q4_get lv 3 = some (.ref (a3)) := by rw [el]; rfl
  rw [← el] at h
  clear el
  replace h := qa_aload (n := 0) (q := 1) (qa_e rfl h) rfl g0
  replace h := qa_gr (b := 4) (j := 0) (q := 4) (qa_e rfl h) rfl hM rfl (by decide)
  replace h := qa_gr (b := 24) (j := 7) (q := 7) (qa_e rfl h) rfl hM rfl (by decide)
  replace h := qa_iload (n := 1) (q := 8) (qa_e rfl h) rfl g1
  replace h := qa_iaload (jn := a1.toNatClampNeg) (q := 9) (qa_e rfl h) rfl hM es rfl
  replace h := qa_aload (n := 0) (q := 10) (qa_e rfl h) rfl g0
  replace h := qa_gr (b := 4) (j := 0) (q := 13) (qa_e rfl h) rfl hM rfl (by decide)
  replace h := qa_gr (b := 25) (j := 8) (q := 16) (qa_e rfl h) rfl hM rfl (by decide)
  replace h := qa_iload (n := 1) (q := 17) (qa_e rfl h) rfl g1
  replace h := qa_iaload (jn := a1.toNatClampNeg) (q := 18) (qa_e rfl h) rfl hM es rfl
  replace h := qa_aload (n := 2) (q := 19) (qa_e rfl h) rfl g2
  replace h := qa_aload (n := 3) (q := 20) (qa_e rfl h) rfl g3
  obtain ⟨r1, er1⟩ : ∃ x, x = (ma_55 N (σ 24 a1.toNatClampNeg) (σ 25 a1.toNatClampNeg) a2 a3 σ) := ⟨_, rfl⟩
  obtain ⟨M, h, hM, es⟩ := qa_c1 (y := 55) (as := [.int ((σ 24 a1.toNatClampNeg)), .int ((σ 25 a1.toNatClampNeg)), .ref (a2), .ref (a3)]) (rest := []) (i := .invokestatic 55) (q := 23) (qa_e rfl h) (Or.inr rfl) rfl rfl (by decide) rfl (fun r hc => mb_55 hN hM es hc)
  rw [← er1] at h
  have er := qa_ri (qa_e rfl h)
  subst er
  have e0 : ma_54_3 N a1 a2 a3 σ = r1 := by exact Eq.trans (qa_ie er1) (rfl)
  rw [e0]
  exact ⟨rfl, hM, es⟩
/-- BuriedBySevens, tellsApart, (I[I[I)Z -/
noncomputable def ma_53_3 (N : Nat) (a1 : Int32) (a2 : Nat) (a3 : Nat) (σ : qa_S) : Int32 :=
  qa_in ((ma_54_3 N a1 a2 a3 σ)) fun r1 =>
  (if r1 = (0 : Int32) then (0 : Int32) else (1 : Int32))
theorem mb_53_3 {f N : Nat} (hN : f ≤ N) {M : q4_M} {r : Option Value × q4_M} {σ : qa_S} {a1 : Int32} {a2 : Nat} {a3 : Nat} (hM : qa_O M) (es : qa_s M = σ) (h : q4_run f 53 0 (lv_args 0 [.ref 3, .int (a1), .ref (a2), .ref (a3)]) [] M 0 0 = some r) : r.1 = some (.int ((ma_53_3 N a1 a2 a3 σ))) ∧ qa_O r.2 ∧ qa_s r.2 = σ := by
  obtain ⟨lv, el⟩ : ∃ l, l = lv_args 0 [.ref 3, .int (a1), .ref (a2), .ref (a3)] := ⟨_, rfl⟩
  have g0 : q4_get lv 0 = some (.ref 3) := by rw [el]; rfl
  have g1 : q4_get lv 1 = some (.int (a1)) := by rw [el]; rfl
  have g2 : q4_get lv 2 = some (.ref (a2)) := by rw [el]; rfl
  have g3 : q4_get lv 3 = some (.ref (a3)) := by rw [el]; rfl
  rw [← el] at h
  clear el
  replace h := qa_aload (n := 0) (q := 1) (qa_e rfl h) rfl g0
  replace h := qa_iload (n := 1) (q := 2) (qa_e rfl h) rfl g1
  replace h := qa_aload (n := 2) (q := 3) (qa_e rfl h) rfl g2
  replace h := qa_aload (n := 3) (q := 4) (qa_e rfl h) rfl g3
  obtain ⟨r1, er1⟩ : ∃ x, x = (ma_54_3 N a1 a2 a3 σ) := ⟨_, rfl⟩
  obtain ⟨M, h, hM, es⟩ := qa_c1 (y := 54) (as := [.ref 3, .int (a1), .ref (a2), .ref (a3)]) (rest := []) (i := .invokevirtual 54) (q := 7) (qa_e rfl h) (Or.inl rfl) rfl rfl (by decide) rfl (fun r hc => mb_54_3 hN hM es hc)
  rw [← er1] at h
  obtain ⟨lv, M, h, hM, es⟩ : ∃ lv M, q4_run f 53 15 lv [.int ((if r1 = (0 : Int32) then (0 : Int32) else (1 : Int32)))] M 0 0 = some r ∧ qa_O M ∧ qa_s M = σ := by
    by_cases c2 : r1 = (0 : Int32)
    · replace h := qa_ict (q := 14) (qa_e rfl h) rfl (qa_T_eq c2)
      replace h := qa_push (z := (0 : Int32)) (q := 15) (qa_e rfl h) rfl (by decide)
      exact ⟨lv, M, (qa_hi1 c2 h), hM, es⟩
    · replace h := qa_icf (q := 10) (qa_e rfl h) rfl (qa_F_eq c2)
      replace h := qa_push (z := (1 : Int32)) (q := 11) (qa_e rfl h) rfl (by decide)
      replace h := qa_goto (q := 15) (qa_e rfl h) rfl
      exact ⟨lv, M, (qa_hi0 c2 h), hM, es⟩
  have er := qa_ri (qa_e rfl h)
  subst er
  have e0 : ma_53_3 N a1 a2 a3 σ = (if r1 = (0 : Int32) then (0 : Int32) else (1 : Int32)) := by exact Eq.trans (qa_ie er1) (rfl)
  rw [e0]
  exact ⟨rfl, hM, es⟩
/-- BuriedBySevens, apart, (III)I -/
noncomputable def ma_51_3 (N : Nat) (a1 : Int32) (a2 : Int32) (a3 : Int32) (σ : qa_S) : Int32 × qa_S :=
  if (ma_33_4 a1 σ) = (0 : Int32) then
    qa_in ((ma_9_3 (-1 : Int32) σ)) fun r2 =>
    (r2.1, r2.2)
  else
    if (ma_52_3 a2 a3 σ) = (0 : Int32) then
      qa_in ((ma_9_3 (-1 : Int32) σ)) fun r4 =>
      (r4.1, r4.2)
    else
      qa_in ((ma_53_3 N a1 (17 + a2.toNatClampNeg) (17 + a3.toNatClampNeg) σ)) fun r5 =>
      ((if r5 = (0 : Int32) then (0 : Int32) else (1 : Int32)), σ)
theorem mb_51_3 {f N : Nat} (hN : f ≤ N) {M : q4_M} {r : Option Value × q4_M} {σ : qa_S} {a1 : Int32} {a2 : Int32} {a3 : Int32} (hM : qa_O M) (es : qa_s M = σ) (h : q4_run f 51 0 (lv_args 0 [.ref 3, .int (a1), .int (a2), .int (a3)]) [] M 0 0 = some r) : r.1 = some (.int ((ma_51_3 N a1 a2 a3 σ).1)) ∧ qa_O r.2 ∧ qa_s r.2 = (ma_51_3 N a1 a2 a3 σ).2 := by
  obtain ⟨lv, el⟩ : ∃ l, l = lv_args 0 [.ref 3, .int (a1), .int (a2), .int (a3)] := ⟨_, rfl⟩
  have g0 : q4_get lv 0 = some (.ref 3) := by rw [el]; rfl
  have g1 : q4_get lv 1 = some (.int (a1)) := by rw [el]; rfl
  have g2 : q4_get lv 2 = some (.int (a2)) := by rw [el]; rfl
  have g3 : q4_get lv 3 = some (.int (a3)) := by rw [el]; rfl
  rw [← el] at h
  clear el
  replace h := qa_aload (n := 0) (q := 1) (qa_e rfl h) rfl g0
  replace h := qa_gr (b := 4) (j := 0) (q := 4) (qa_e rfl h) rfl hM rfl (by decide)
  replace h := qa_iload (n := 1) (q := 5) (qa_e rfl h) rfl g1
  obtain ⟨M, h, hM, es⟩ := qa_c1 (y := 33) (as := [.ref 4, .int (a1)]) (rest := []) (i := .invokevirtual 33) (q := 8) (qa_e rfl h) (Or.inl rfl) rfl rfl (by decide) rfl (fun r hc => mb_33_4 hM es hc)
  by_cases c1 : (ma_33_4 a1 σ) = (0 : Int32)
  · replace h := qa_ict (q := 20) (qa_e rfl h) rfl (qa_T_eq c1)
    replace h := qa_aload (n := 0) (q := 21) (qa_e rfl h) rfl g0
    replace h := qa_push (z := (-1 : Int32)) (q := 22) (qa_e rfl h) rfl (by decide)
    obtain ⟨r2, er2⟩ : ∃ x, x = (ma_9_3 (-1 : Int32) σ) := ⟨_, rfl⟩
    obtain ⟨M, h, hM, es⟩ := qa_c1 (y := 9) (as := [.ref 3, .int ((-1 : Int32))]) (rest := []) (i := .invokevirtual 9) (q := 25) (qa_e rfl h) (Or.inl rfl) rfl rfl (by decide) rfl (fun r hc => mb_9_3 hM es hc)
    rw [← er2] at h es
    have er := qa_ri (qa_e rfl h)
    subst er
    have e0 : ma_51_3 N a1 a2 a3 σ = (r2.1, r2.2) := by exact Eq.trans (if_pos c1) (Eq.trans (qa_ie er2) (rfl))
    rw [e0]
    exact ⟨rfl, hM, es⟩
  · replace h := qa_icf (q := 11) (qa_e rfl h) rfl (qa_F_eq c1)
    replace h := qa_aload (n := 0) (q := 12) (qa_e rfl h) rfl g0
    replace h := qa_iload (n := 2) (q := 13) (qa_e rfl h) rfl g2
    replace h := qa_iload (n := 3) (q := 14) (qa_e rfl h) rfl g3
    obtain ⟨M, h, hM, es⟩ := qa_c1 (y := 52) (as := [.ref 3, .int (a2), .int (a3)]) (rest := []) (i := .invokevirtual 52) (q := 17) (qa_e rfl h) (Or.inl rfl) rfl rfl (by decide) rfl (fun r hc => mb_52_3 hM es hc)
    by_cases c3 : (ma_52_3 a2 a3 σ) = (0 : Int32)
    · replace h := qa_icf (q := 20) (qa_e rfl h) rfl (qa_F_ne c3)
      replace h := qa_aload (n := 0) (q := 21) (qa_e rfl h) rfl g0
      replace h := qa_push (z := (-1 : Int32)) (q := 22) (qa_e rfl h) rfl (by decide)
      obtain ⟨r4, er4⟩ : ∃ x, x = (ma_9_3 (-1 : Int32) σ) := ⟨_, rfl⟩
      obtain ⟨M, h, hM, es⟩ := qa_c1 (y := 9) (as := [.ref 3, .int ((-1 : Int32))]) (rest := []) (i := .invokevirtual 9) (q := 25) (qa_e rfl h) (Or.inl rfl) rfl rfl (by decide) rfl (fun r hc => mb_9_3 hM es hc)
      rw [← er4] at h es
      have er := qa_ri (qa_e rfl h)
      subst er
      have e0 : ma_51_3 N a1 a2 a3 σ = (r4.1, r4.2) := by exact Eq.trans (if_neg c1) (Eq.trans (if_pos c3) (Eq.trans (qa_ie er4) (rfl)))
      rw [e0]
      exact ⟨rfl, hM, es⟩
    · replace h := qa_ict (q := 26) (qa_e rfl h) rfl (qa_T_ne c3)
      replace h := qa_aload (n := 0) (q := 27) (qa_e rfl h) rfl g0
      replace h := qa_iload (n := 1) (q := 28) (qa_e rfl h) rfl g1
      replace h := qa_aload (n := 0) (q := 29) (qa_e rfl h) rfl g0
      replace h := qa_gr (b := 4) (j := 0) (q := 32) (qa_e rfl h) rfl hM rfl (by decide)
      replace h := qa_gr (b := 16) (j := 6) (q := 35) (qa_e rfl h) rfl hM rfl (by decide)
      replace h := qa_iload (n := 2) (q := 36) (qa_e rfl h) rfl g2
      replace h := qa_aaload (b := 17) (jn := a2.toNatClampNeg) (q := 37) (qa_e rfl h) rfl hM rfl (by decide) (by decide +kernel)
      replace h := qa_aload (n := 0) (q := 38) (qa_e rfl h) rfl g0
      replace h := qa_gr (b := 4) (j := 0) (q := 41) (qa_e rfl h) rfl hM rfl (by decide)
      replace h := qa_gr (b := 16) (j := 6) (q := 44) (qa_e rfl h) rfl hM rfl (by decide)
      replace h := qa_iload (n := 3) (q := 45) (qa_e rfl h) rfl g3
      replace h := qa_aaload (b := 17) (jn := a3.toNatClampNeg) (q := 46) (qa_e rfl h) rfl hM rfl (by decide) (by decide +kernel)
      obtain ⟨r5, er5⟩ : ∃ x, x = (ma_53_3 N a1 (17 + a2.toNatClampNeg) (17 + a3.toNatClampNeg) σ) := ⟨_, rfl⟩
      obtain ⟨M, h, hM, es⟩ := qa_c1 (y := 53) (as := [.ref 3, .int (a1), .ref ((17 + a2.toNatClampNeg)), .ref ((17 + a3.toNatClampNeg))]) (rest := []) (i := .invokevirtual 53) (q := 49) (qa_e rfl h) (Or.inl rfl) rfl rfl (by decide) rfl (fun r hc => mb_53_3 hN hM es hc)
      rw [← er5] at h
      obtain ⟨lv, M, h, hM, es⟩ : ∃ lv M, q4_run f 51 57 lv [.int ((if r5 = (0 : Int32) then (0 : Int32) else (1 : Int32)))] M 0 0 = some r ∧ qa_O M ∧ qa_s M = σ := by
        by_cases c6 : r5 = (0 : Int32)
        · replace h := qa_ict (q := 56) (qa_e rfl h) rfl (qa_T_eq c6)
          replace h := qa_push (z := (0 : Int32)) (q := 57) (qa_e rfl h) rfl (by decide)
          exact ⟨lv, M, (qa_hi1 c6 h), hM, es⟩
        · replace h := qa_icf (q := 52) (qa_e rfl h) rfl (qa_F_eq c6)
          replace h := qa_push (z := (1 : Int32)) (q := 53) (qa_e rfl h) rfl (by decide)
          replace h := qa_goto (q := 57) (qa_e rfl h) rfl
          exact ⟨lv, M, (qa_hi0 c6 h), hM, es⟩
      have er := qa_ri (qa_e rfl h)
      subst er
      have e0 : ma_51_3 N a1 a2 a3 σ = ((if r5 = (0 : Int32) then (0 : Int32) else (1 : Int32)), σ) := by exact Eq.trans (if_neg c1) (Eq.trans (if_neg c3) (Eq.trans (qa_ie er5) (rfl)))
      rw [e0]
      exact ⟨rfl, hM, es⟩
/-- BuriedBySevens, isZeroOrOne, (I)Z -/
noncomputable def ma_57 (a0 : Int32) : Int32 :=
  (if a0 = (0 : Int32) then (1 : Int32) else (if a0 = (1 : Int32) then (1 : Int32) else (0 : Int32)))
theorem mb_57 {f : Nat} {M : q4_M} {r : Option Value × q4_M} {σ : qa_S} {a0 : Int32} (hM : qa_O M) (es : qa_s M = σ) (h : q4_run f 57 0 (lv_args 0 [.int (a0)]) [] M 0 0 = some r) : r.1 = some (.int ((ma_57 a0))) ∧ qa_O r.2 ∧ qa_s r.2 = σ := by
  obtain ⟨lv, el⟩ : ∃ l, l = lv_args 0 [.int (a0)] := ⟨_, rfl⟩
  have g0 : q4_get lv 0 = some (.int (a0)) := by rw [el]; rfl
  rw [← el] at h
  clear el
  replace h := qa_iload (n := 0) (q := 1) (qa_e rfl h) rfl g0
  obtain ⟨lv, M, h, hM, es⟩ : ∃ lv M, q4_run f 57 14 lv [.int ((if a0 = (0 : Int32) then (1 : Int32) else (if a0 = (1 : Int32) then (1 : Int32) else (0 : Int32))))] M 0 0 = some r ∧ qa_O M ∧ qa_s M = σ := by
    by_cases c1 : a0 = (0 : Int32)
    · replace h := qa_ict (q := 9) (qa_e rfl h) rfl (qa_T_eq c1)
      replace h := qa_push (z := (1 : Int32)) (q := 10) (qa_e rfl h) rfl (by decide)
      replace h := qa_goto (q := 14) (qa_e rfl h) rfl
      exact ⟨lv, M, (qa_hi1 c1 h), hM, es⟩
    · replace h := qa_icf (q := 4) (qa_e rfl h) rfl (qa_F_eq c1)
      replace h := qa_iload (n := 0) (q := 5) (qa_e rfl h) rfl g0
      replace h := qa_push (z := (1 : Int32)) (q := 6) (qa_e rfl h) rfl (by decide)
      obtain ⟨lv, M, h, hM, es⟩ : ∃ lv M, q4_run f 57 14 lv [.int ((if a0 = (1 : Int32) then (1 : Int32) else (0 : Int32)))] M 0 0 = some r ∧ qa_O M ∧ qa_s M = σ := by
        by_cases c2 : a0 = (1 : Int32)
        · replace h := qa_iff (q := 9) (qa_e rfl h) rfl (qa_F_ne c2)
          replace h := qa_push (z := (1 : Int32)) (q := 10) (qa_e rfl h) rfl (by decide)
          replace h := qa_goto (q := 14) (qa_e rfl h) rfl
          exact ⟨lv, M, (qa_hi1 c2 h), hM, es⟩
        · replace h := qa_ift (q := 13) (qa_e rfl h) rfl (qa_T_ne c2)
          replace h := qa_push (z := (0 : Int32)) (q := 14) (qa_e rfl h) rfl (by decide)
          exact ⟨lv, M, (qa_hi0 c2 h), hM, es⟩
      exact ⟨lv, M, (qa_hi0 c1 h), hM, es⟩
  have er := qa_ri (qa_e rfl h)
  subst er
  have e0 : ma_57 a0 = (if a0 = (0 : Int32) then (1 : Int32) else (if a0 = (1 : Int32) then (1 : Int32) else (0 : Int32))) := by exact rfl
  rw [e0]
  exact ⟨rfl, hM, es⟩
noncomputable def mc_58_3_p38 (N : Nat) (l1 : Int32) (l4 : Int32) (σ : qa_S) (s : Int32 × Int32 × Int32) : (Int32 × Int32 × Int32) ⊕ (Int32 × Int32 × Int32) :=
  if s.1 < (σ 4 0) then
    qa_in ((ma_53_3 N l1 (17 + l4.toNatClampNeg) (17 + s.1.toNatClampNeg) σ)) fun r2 =>
    .inl ((s.1 + (1 : Int32)), (if r2 = (0 : Int32) then s.2.1 else (s.2.1 ||| s.2.2)), (s.2.2 <<< ((1 : Int32) &&& 31)))
  else
    .inr (s.1, s.2.1, s.2.2)
theorem md_58_3_p38 {N F : Nat} {r : Option Value × q4_M} {l1 : Int32} {l4 : Int32} {σ : qa_S} (hN : F ≤ N) : ∀ f n, f ≤ n → f ≤ F → ∀ (s : Int32 × Int32 × Int32) (lv : List (Nat × Value)) (M : q4_M), qa_O M → qa_s M = σ → q4_get lv 0 = some (.ref 3) → q4_get lv 1 = some (.int (l1)) → q4_get lv 2 = some (.int (s.2.1)) → q4_get lv 3 = some (.int (s.2.2)) → q4_get lv 4 = some (.int (l4)) → q4_get lv 5 = some (.int (s.1)) → q4_run f 58 38 lv [] M 0 0 = some r → ∃ lv M, q4_run F 58 92 lv [] M 0 0 = some r ∧ qa_O M ∧ qa_s M = σ ∧ q4_get lv 0 = some (.ref 3) ∧ q4_get lv 1 = some (.int (l1)) ∧ q4_get lv 2 = some (.int ((qa_wh (fun s => s) (mc_58_3_p38 N l1 l4 σ) n s).2.1)) ∧ q4_get lv 3 = some (.int ((qa_wh (fun s => s) (mc_58_3_p38 N l1 l4 σ) n s).2.2)) ∧ q4_get lv 4 = some (.int (l4)) := by
  intro f
  induction f with
  | zero => intro n _ _ s lv M hM es _ _ _ _ _ _ h; cases h
  | succ f ih =>
    intro n hn hF s lv M hM es g0 g1 g2 g3 g4 g5 h
    obtain ⟨n, rfl⟩ : ∃ n1, n = n1 + 1 := ⟨n - 1, by omega⟩
    replace hn : f ≤ n := Nat.le_of_succ_le_succ hn
    have hN := Nat.le_trans (Nat.le_of_succ_le hF) hN
    replace h := qa_iload (n := 5) (q := 40) (qa_d rfl h) rfl g5
    replace h := qa_aload (n := 0) (q := 41) (qa_e rfl h) rfl g0
    replace h := qa_gr (b := 4) (j := 0) (q := 44) (qa_e rfl h) rfl hM rfl (by decide)
    replace h := qa_gi (j := 0) (q := 47) (qa_e rfl h) rfl hM es rfl (by decide)
    by_cases c1 : s.1 < (σ 4 0)
    · replace h := qa_iff (q := 50) (qa_e rfl h) rfl (qa_F_ge c1)
      replace h := qa_aload (n := 0) (q := 51) (qa_e rfl h) rfl g0
      replace h := qa_iload (n := 1) (q := 52) (qa_e rfl h) rfl g1
      replace h := qa_aload (n := 0) (q := 53) (qa_e rfl h) rfl g0
      replace h := qa_gr (b := 4) (j := 0) (q := 56) (qa_e rfl h) rfl hM rfl (by decide)
      replace h := qa_gr (b := 16) (j := 6) (q := 59) (qa_e rfl h) rfl hM rfl (by decide)
      replace h := qa_iload (n := 4) (q := 61) (qa_e rfl h) rfl g4
      replace h := qa_aaload (b := 17) (jn := l4.toNatClampNeg) (q := 62) (qa_e rfl h) rfl hM rfl (by decide) (by decide +kernel)
      replace h := qa_aload (n := 0) (q := 63) (qa_e rfl h) rfl g0
      replace h := qa_gr (b := 4) (j := 0) (q := 66) (qa_e rfl h) rfl hM rfl (by decide)
      replace h := qa_gr (b := 16) (j := 6) (q := 69) (qa_e rfl h) rfl hM rfl (by decide)
      replace h := qa_iload (n := 5) (q := 71) (qa_e rfl h) rfl g5
      replace h := qa_aaload (b := 17) (jn := s.1.toNatClampNeg) (q := 72) (qa_e rfl h) rfl hM rfl (by decide) (by decide +kernel)
      obtain ⟨r2, er2⟩ : ∃ x, x = (ma_53_3 N l1 (17 + l4.toNatClampNeg) (17 + s.1.toNatClampNeg) σ) := ⟨_, rfl⟩
      obtain ⟨M, h, hM, es⟩ := qa_c1 (y := 53) (as := [.ref 3, .int (l1), .ref ((17 + l4.toNatClampNeg)), .ref ((17 + s.1.toNatClampNeg))]) (rest := []) (i := .invokevirtual 53) (q := 75) (qa_e rfl h) (Or.inl rfl) rfl rfl (by decide) rfl (fun r hc => mb_53_3 hN hM es hc)
      rw [← er2] at h
      obtain ⟨lv, M, h, hM, es, g0, g1, g2, g3, g4, g5⟩ : ∃ lv M, q4_run f 58 82 lv [] M 0 0 = some r ∧ qa_O M ∧ qa_s M = σ ∧ q4_get lv 0 = some (.ref 3) ∧ q4_get lv 1 = some (.int (l1)) ∧ q4_get lv 2 = some (.int ((if r2 = (0 : Int32) then s.2.1 else (s.2.1 ||| s.2.2)))) ∧ q4_get lv 3 = some (.int (s.2.2)) ∧ q4_get lv 4 = some (.int (l4)) ∧ q4_get lv 5 = some (.int (s.1)) := by
        by_cases c3 : r2 = (0 : Int32)
        · replace h := qa_ict (q := 82) (qa_e rfl h) rfl (qa_T_eq c3)
          exact ⟨lv, M, h, hM, es, g0, g1, (qa_gi1 c3 g2), g3, g4, g5⟩
        · replace h := qa_icf (q := 78) (qa_e rfl h) rfl (qa_F_eq c3)
          replace h := qa_iload (n := 2) (q := 79) (qa_e rfl h) rfl g2
          replace h := qa_iload (n := 3) (q := 80) (qa_e rfl h) rfl g3
          replace h := qa_ior (q := 81) (qa_e rfl h) rfl
          obtain ⟨lv, h, g, T⟩ := qa_istore (n := 2) (q := 82) (qa_e rfl h) rfl
          replace g0 := T _ _ g0 (by decide) (Or.inr rfl)
          replace g1 := T _ _ g1 (by decide) (Or.inr rfl)
          replace g3 := T _ _ g3 (by decide) (Or.inr rfl)
          replace g4 := T _ _ g4 (by decide) (Or.inr rfl)
          replace g5 := T _ _ g5 (by decide) (Or.inr rfl)
          have g2 := g
          clear g T
          exact ⟨lv, M, h, hM, es, g0, g1, (qa_gi0 c3 g2), g3, g4, g5⟩
      replace h := qa_iload (n := 3) (q := 83) (qa_e rfl h) rfl g3
      replace h := qa_push (z := (1 : Int32)) (q := 84) (qa_e rfl h) rfl (by decide)
      replace h := qa_ishl (q := 85) (qa_e rfl h) rfl
      obtain ⟨lv, h, g, T⟩ := qa_istore (n := 3) (q := 86) (qa_e rfl h) rfl
      replace g0 := T _ _ g0 (by decide) (Or.inr rfl)
      replace g1 := T _ _ g1 (by decide) (Or.inr rfl)
      replace g2 := T _ _ g2 (by decide) (Or.inr rfl)
      replace g4 := T _ _ g4 (by decide) (Or.inr rfl)
      replace g5 := T _ _ g5 (by decide) (Or.inr rfl)
      have g3 := g
      clear g T
      obtain ⟨lv, h, g, T⟩ := qa_iinc (n := 5) (z := (1 : Int32)) (q := 89) (qa_e rfl h) rfl (by decide) g5
      replace g0 := T _ _ g0 (by decide) (Or.inr rfl)
      replace g1 := T _ _ g1 (by decide) (Or.inr rfl)
      replace g2 := T _ _ g2 (by decide) (Or.inr rfl)
      replace g3 := T _ _ g3 (by decide) (Or.inr rfl)
      replace g4 := T _ _ g4 (by decide) (Or.inr rfl)
      replace g5 := g
      clear g T
      replace h := qa_goto (q := 38) (qa_e rfl h) rfl
      have e0 : mc_58_3_p38 N l1 l4 σ s = .inl ((s.1 + (1 : Int32)), (if r2 = (0 : Int32) then s.2.1 else (s.2.1 ||| s.2.2)), (s.2.2 <<< ((1 : Int32) &&& 31))) := by exact Eq.trans (if_pos c1) (Eq.trans (qa_ie er2) (rfl))
      rw [qa_whl e0]
      exact ih n hn (Nat.le_of_succ_le hF) ((s.1 + (1 : Int32)), (if r2 = (0 : Int32) then s.2.1 else (s.2.1 ||| s.2.2)), (s.2.2 <<< ((1 : Int32) &&& 31))) _ _ hM es g0 g1 g2 g3 g4 g5 h
    · replace h := qa_ift (q := 92) (qa_e rfl h) rfl (qa_T_ge c1)
      have e0 : mc_58_3_p38 N l1 l4 σ s = .inr (s.1, s.2.1, s.2.2) := by exact Eq.trans (if_neg c1) (rfl)
      rw [qa_whr e0]
      exact ⟨_, _, q61_mono f F _ _ _ _ _ _ _ _ (Nat.le_of_succ_le hF) h, hM, es, g0, g1, g2, g3, g4⟩
noncomputable def mc_58_3_p20 (N : Nat) (l1 : Int32) (σ : qa_S) (s : Int32 × Int32 × Int32) : (Int32 × Int32 × Int32) ⊕ (Int32 × Int32 × Int32) :=
  if s.1 < (σ 4 0) then
    qa_in ((qa_wh (fun s => s) (mc_58_3_p38 N l1 s.1 σ) N ((s.1 + (1 : Int32)), s.2.1, s.2.2))) fun r2 =>
    .inl ((s.1 + (1 : Int32)), r2.2.1, r2.2.2)
  else
    .inr (s.1, s.2.1, s.2.2)
theorem md_58_3_p20 {N F : Nat} {r : Option Value × q4_M} {l1 : Int32} {σ : qa_S} (hN : F ≤ N) : ∀ f n, f ≤ n → f ≤ F → ∀ (s : Int32 × Int32 × Int32) (lv : List (Nat × Value)) (M : q4_M), qa_O M → qa_s M = σ → q4_get lv 0 = some (.ref 3) → q4_get lv 1 = some (.int (l1)) → q4_get lv 2 = some (.int (s.2.1)) → q4_get lv 3 = some (.int (s.2.2)) → q4_get lv 4 = some (.int (s.1)) → q4_run f 58 20 lv [] M 0 0 = some r → ∃ lv M, q4_run F 58 98 lv [] M 0 0 = some r ∧ qa_O M ∧ qa_s M = σ ∧ q4_get lv 0 = some (.ref 3) ∧ q4_get lv 1 = some (.int (l1)) ∧ q4_get lv 2 = some (.int ((qa_wh (fun s => s) (mc_58_3_p20 N l1 σ) n s).2.1)) := by
  intro f
  induction f with
  | zero => intro n _ _ s lv M hM es _ _ _ _ _ h; cases h
  | succ f ih =>
    intro n hn hF s lv M hM es g0 g1 g2 g3 g4 h
    obtain ⟨n, rfl⟩ : ∃ n1, n = n1 + 1 := ⟨n - 1, by omega⟩
    replace hn : f ≤ n := Nat.le_of_succ_le_succ hn
    have hN := Nat.le_trans (Nat.le_of_succ_le hF) hN
    replace h := qa_iload (n := 4) (q := 22) (qa_d rfl h) rfl g4
    replace h := qa_aload (n := 0) (q := 23) (qa_e rfl h) rfl g0
    replace h := qa_gr (b := 4) (j := 0) (q := 26) (qa_e rfl h) rfl hM rfl (by decide)
    replace h := qa_gi (j := 0) (q := 29) (qa_e rfl h) rfl hM es rfl (by decide)
    by_cases c1 : s.1 < (σ 4 0)
    · replace h := qa_iff (q := 32) (qa_e rfl h) rfl (qa_F_ge c1)
      replace h := qa_iload (n := 4) (q := 34) (qa_e rfl h) rfl g4
      replace h := qa_push (z := (1 : Int32)) (q := 35) (qa_e rfl h) rfl (by decide)
      replace h := qa_iadd (q := 36) (qa_e rfl h) rfl
      obtain ⟨lv, h, g, T⟩ := qa_istore (n := 5) (q := 38) (qa_e rfl h) rfl
      replace g0 := T _ _ g0 (by decide) (Or.inr rfl)
      replace g1 := T _ _ g1 (by decide) (Or.inr rfl)
      replace g2 := T _ _ g2 (by decide) (Or.inr rfl)
      replace g3 := T _ _ g3 (by decide) (Or.inr rfl)
      replace g4 := T _ _ g4 (by decide) (Or.inr rfl)
      have g5 := g
      clear g T
      obtain ⟨r2, er2⟩ : ∃ x, x = (qa_wh (fun s => s) (mc_58_3_p38 N l1 s.1 σ) N ((s.1 + (1 : Int32)), s.2.1, s.2.2)) := ⟨_, rfl⟩
      have L := md_58_3_p38 (l1 := l1) (l4 := s.1) (σ := σ) (F := f) (N := N) (r := r) hN f N hN (Nat.le_refl f) ((s.1 + (1 : Int32)), s.2.1, s.2.2) _ _ hM es g0 g1 g2 g3 g4 g5 h
      rw [← er2] at L
      obtain ⟨lv, M, h, hM, es, g0, g1, g2, g3, g4⟩ := L
      obtain ⟨lv, h, g, T⟩ := qa_iinc (n := 4) (z := (1 : Int32)) (q := 95) (qa_e rfl h) rfl (by decide) g4
      replace g0 := T _ _ g0 (by decide) (Or.inr rfl)
      replace g1 := T _ _ g1 (by decide) (Or.inr rfl)
      replace g2 := T _ _ g2 (by decide) (Or.inr rfl)
      replace g3 := T _ _ g3 (by decide) (Or.inr rfl)
      replace g4 := g
      clear g T
      replace h := qa_goto (q := 20) (qa_e rfl h) rfl
      have e0 : mc_58_3_p20 N l1 σ s = .inl ((s.1 + (1 : Int32)), r2.2.1, r2.2.2) := by exact Eq.trans (if_pos c1) (Eq.trans (qa_ie er2) (rfl))
      rw [qa_whl e0]
      exact ih n hn (Nat.le_of_succ_le hF) ((s.1 + (1 : Int32)), r2.2.1, r2.2.2) _ _ hM es g0 g1 g2 g3 g4 h
    · replace h := qa_ift (q := 98) (qa_e rfl h) rfl (qa_T_ge c1)
      have e0 : mc_58_3_p20 N l1 σ s = .inr (s.1, s.2.1, s.2.2) := by exact Eq.trans (if_neg c1) (rfl)
      rw [qa_whr e0]
      exact ⟨_, _, q61_mono f F _ _ _ _ _ _ _ _ (Nat.le_of_succ_le hF) h, hM, es, g0, g1, g2⟩
noncomputable def mc_58_3_p2 (N : Nat) (s : Int32 × qa_S) : (Int32 × qa_S) ⊕ (Int32 × qa_S) :=
  if s.1 < (s.2 4 1) then
    qa_in ((qa_wh (fun s => s) (mc_58_3_p20 N s.1 s.2) N ((0 : Int32), (0 : Int32), (1 : Int32)))) fun r2 =>
    qa_in (qa_u s.2 97 s.1.toNatClampNeg r2.2.1) fun m3 =>
    .inl ((s.1 + (1 : Int32)), m3)
  else
    .inr (s.1, s.2)
theorem md_58_3_p2 {N F : Nat} {r : Option Value × q4_M} (hN : F ≤ N) : ∀ f n, f ≤ n → f ≤ F → ∀ (s : Int32 × qa_S) (lv : List (Nat × Value)) (M : q4_M), qa_O M → qa_s M = s.2 → q4_get lv 0 = some (.ref 3) → q4_get lv 1 = some (.int (s.1)) → q4_run f 58 2 lv [] M 0 0 = some r → ∃ lv M, q4_run F 58 111 lv [] M 0 0 = some r ∧ qa_O M ∧ qa_s M = (qa_wh (fun s => s) (mc_58_3_p2 N) n s).2 := by
  intro f
  induction f with
  | zero => intro n _ _ s lv M hM es _ _ h; cases h
  | succ f ih =>
    intro n hn hF s lv M hM es g0 g1 h
    obtain ⟨n, rfl⟩ : ∃ n1, n = n1 + 1 := ⟨n - 1, by omega⟩
    replace hn : f ≤ n := Nat.le_of_succ_le_succ hn
    have hN := Nat.le_trans (Nat.le_of_succ_le hF) hN
    replace h := qa_iload (n := 1) (q := 3) (qa_d rfl h) rfl g1
    replace h := qa_aload (n := 0) (q := 4) (qa_e rfl h) rfl g0
    replace h := qa_gr (b := 4) (j := 0) (q := 7) (qa_e rfl h) rfl hM rfl (by decide)
    replace h := qa_gi (j := 1) (q := 10) (qa_e rfl h) rfl hM es rfl (by decide)
    by_cases c1 : s.1 < (s.2 4 1)
    · replace h := qa_iff (q := 13) (qa_e rfl h) rfl (qa_F_ge c1)
      replace h := qa_push (z := (0 : Int32)) (q := 14) (qa_e rfl h) rfl (by decide)
      obtain ⟨lv, h, g, T⟩ := qa_istore (n := 2) (q := 15) (qa_e rfl h) rfl
      replace g0 := T _ _ g0 (by decide) (Or.inr rfl)
      replace g1 := T _ _ g1 (by decide) (Or.inr rfl)
      have g2 := g
      clear g T
      replace h := qa_push (z := (1 : Int32)) (q := 16) (qa_e rfl h) rfl (by decide)
      obtain ⟨lv, h, g, T⟩ := qa_istore (n := 3) (q := 17) (qa_e rfl h) rfl
      replace g0 := T _ _ g0 (by decide) (Or.inr rfl)
      replace g1 := T _ _ g1 (by decide) (Or.inr rfl)
      replace g2 := T _ _ g2 (by decide) (Or.inr rfl)
      have g3 := g
      clear g T
      replace h := qa_push (z := (0 : Int32)) (q := 18) (qa_e rfl h) rfl (by decide)
      obtain ⟨lv, h, g, T⟩ := qa_istore (n := 4) (q := 20) (qa_e rfl h) rfl
      replace g0 := T _ _ g0 (by decide) (Or.inr rfl)
      replace g1 := T _ _ g1 (by decide) (Or.inr rfl)
      replace g2 := T _ _ g2 (by decide) (Or.inr rfl)
      replace g3 := T _ _ g3 (by decide) (Or.inr rfl)
      have g4 := g
      clear g T
      obtain ⟨r2, er2⟩ : ∃ x, x = (qa_wh (fun s => s) (mc_58_3_p20 N s.1 s.2) N ((0 : Int32), (0 : Int32), (1 : Int32))) := ⟨_, rfl⟩
      have L := md_58_3_p20 (l1 := s.1) (σ := s.2) (F := f) (N := N) (r := r) hN f N hN (Nat.le_refl f) ((0 : Int32), (0 : Int32), (1 : Int32)) _ _ hM es g0 g1 g2 g3 g4 h
      rw [← er2] at L
      obtain ⟨lv, M, h, hM, es, g0, g1, g2⟩ := L
      replace h := qa_aload (n := 0) (q := 99) (qa_e rfl h) rfl g0
      replace h := qa_gr (b := 97) (j := 14) (q := 102) (qa_e rfl h) rfl hM rfl (by decide)
      replace h := qa_iload (n := 1) (q := 103) (qa_e rfl h) rfl g1
      replace h := qa_iload (n := 2) (q := 104) (qa_e rfl h) rfl g2
      obtain ⟨m3, em3⟩ : ∃ x, x = qa_u s.2 97 s.1.toNatClampNeg r2.2.1 := ⟨_, rfl⟩
      obtain ⟨M, h, hM, es⟩ := qa_iastore (jn := s.1.toNatClampNeg) (q := 105) (qa_e rfl h) rfl hM es rfl
      rw [← em3] at es
      obtain ⟨lv, h, g, T⟩ := qa_iinc (n := 1) (z := (1 : Int32)) (q := 108) (qa_e rfl h) rfl (by decide) g1
      replace g0 := T _ _ g0 (by decide) (Or.inr rfl)
      replace g1 := g
      clear g T
      replace h := qa_goto (q := 2) (qa_e rfl h) rfl
      have e0 : mc_58_3_p2 N s = .inl ((s.1 + (1 : Int32)), m3) := by exact Eq.trans (if_pos c1) (Eq.trans (qa_ie er2) (Eq.trans (qa_ie em3) (rfl)))
      rw [qa_whl e0]
      exact ih n hn (Nat.le_of_succ_le hF) ((s.1 + (1 : Int32)), m3) _ _ hM es g0 g1 h
    · replace h := qa_ift (q := 111) (qa_e rfl h) rfl (qa_T_ge c1)
      have e0 : mc_58_3_p2 N s = .inr (s.1, s.2) := by exact Eq.trans (if_neg c1) (rfl)
      rw [qa_whr e0]
      exact ⟨_, _, q61_mono f F _ _ _ _ _ _ _ _ (Nat.le_of_succ_le hF) h, hM, es⟩
/-- BuriedBySevens, lookAtTwos, ()V -/
noncomputable def ma_58_3 (N : Nat) (σ : qa_S) : qa_S :=
  qa_in ((qa_wh (fun s => s) (mc_58_3_p2 N) N ((0 : Int32), σ))) fun r1 =>
  r1.2
theorem mb_58_3 {f N : Nat} (hN : f ≤ N) {M : q4_M} {r : Option Value × q4_M} {σ : qa_S} (hM : qa_O M) (es : qa_s M = σ) (h : q4_run f 58 0 (lv_args 0 [.ref 3]) [] M 0 0 = some r) : r.1 = none ∧ qa_O r.2 ∧ qa_s r.2 = (ma_58_3 N σ) := by
  obtain ⟨lv, el⟩ : ∃ l, l = lv_args 0 [.ref 3] := ⟨_, rfl⟩
  have g0 : q4_get lv 0 = some (.ref 3) := by rw [el]; rfl
  rw [← el] at h
  clear el
  replace h := qa_push (z := (0 : Int32)) (q := 1) (qa_e rfl h) rfl (by decide)
  obtain ⟨lv, h, g, T⟩ := qa_istore (n := 1) (q := 2) (qa_e rfl h) rfl
  replace g0 := T _ _ g0 (by decide) (Or.inr rfl)
  have g1 := g
  clear g T
  obtain ⟨r1, er1⟩ : ∃ x, x = (qa_wh (fun s => s) (mc_58_3_p2 N) N ((0 : Int32), σ)) := ⟨_, rfl⟩
  have L := md_58_3_p2 (F := f) (N := N) (r := r) hN f N hN (Nat.le_refl f) ((0 : Int32), σ) _ _ hM es g0 g1 h
  rw [← er1] at L
  obtain ⟨lv, M, h, hM, es⟩ := L
  have er := qa_rv (qa_e rfl h)
  subst er
  have e0 : ma_58_3 N σ = r1.2 := by exact Eq.trans (qa_ie er1) (rfl)
  rw [e0]
  exact ⟨rfl, hM, es⟩
/-- BuriedBySevens, allTwos, ()I -/
noncomputable def ma_59_3 (σ : qa_S) : Int32 :=
  (((1 : Int32) <<< ((((σ 4 0) * ((σ 4 0) - (1 : Int32))) / (2 : Int32)) &&& 31)) - (1 : Int32))
theorem mb_59_3 {f : Nat} {M : q4_M} {r : Option Value × q4_M} {σ : qa_S} (hM : qa_O M) (es : qa_s M = σ) (h : q4_run f 59 0 (lv_args 0 [.ref 3]) [] M 0 0 = some r) : r.1 = some (.int ((ma_59_3 σ))) ∧ qa_O r.2 ∧ qa_s r.2 = σ := by
  obtain ⟨lv, el⟩ : ∃ l, l = lv_args 0 [.ref 3] := ⟨_, rfl⟩
  have g0 : q4_get lv 0 = some (.ref 3) := by rw [el]; rfl
  rw [← el] at h
  clear el
  replace h := qa_push (z := (1 : Int32)) (q := 1) (qa_e rfl h) rfl (by decide)
  replace h := qa_aload (n := 0) (q := 2) (qa_e rfl h) rfl g0
  replace h := qa_gr (b := 4) (j := 0) (q := 5) (qa_e rfl h) rfl hM rfl (by decide)
  replace h := qa_gi (j := 0) (q := 8) (qa_e rfl h) rfl hM es rfl (by decide)
  replace h := qa_aload (n := 0) (q := 9) (qa_e rfl h) rfl g0
  replace h := qa_gr (b := 4) (j := 0) (q := 12) (qa_e rfl h) rfl hM rfl (by decide)
  replace h := qa_gi (j := 0) (q := 15) (qa_e rfl h) rfl hM es rfl (by decide)
  replace h := qa_push (z := (1 : Int32)) (q := 16) (qa_e rfl h) rfl (by decide)
  replace h := qa_isub (q := 17) (qa_e rfl h) rfl
  replace h := qa_imul (q := 18) (qa_e rfl h) rfl
  replace h := qa_push (z := (2 : Int32)) (q := 19) (qa_e rfl h) rfl (by decide)
  replace h := qa_idiv (q := 20) (qa_e rfl h) rfl
  replace h := qa_ishl (q := 21) (qa_e rfl h) rfl
  replace h := qa_push (z := (1 : Int32)) (q := 22) (qa_e rfl h) rfl (by decide)
  replace h := qa_isub (q := 23) (qa_e rfl h) rfl
  have er := qa_ri (qa_e rfl h)
  subst er
  have e0 : ma_59_3 σ = (((1 : Int32) <<< ((((σ 4 0) * ((σ 4 0) - (1 : Int32))) / (2 : Int32)) &&& 31)) - (1 : Int32)) := by exact rfl
  rw [e0]
  exact ⟨rfl, hM, es⟩
/-- BuriedBySevens, everybody, ()I -/
noncomputable def ma_60_3 (σ : qa_S) : Int32 :=
  (((1 : Int32) <<< ((σ 4 1) &&& 31)) - (1 : Int32))
theorem mb_60_3 {f : Nat} {M : q4_M} {r : Option Value × q4_M} {σ : qa_S} (hM : qa_O M) (es : qa_s M = σ) (h : q4_run f 60 0 (lv_args 0 [.ref 3]) [] M 0 0 = some r) : r.1 = some (.int ((ma_60_3 σ))) ∧ qa_O r.2 ∧ qa_s r.2 = σ := by
  obtain ⟨lv, el⟩ : ∃ l, l = lv_args 0 [.ref 3] := ⟨_, rfl⟩
  have g0 : q4_get lv 0 = some (.ref 3) := by rw [el]; rfl
  rw [← el] at h
  clear el
  replace h := qa_push (z := (1 : Int32)) (q := 1) (qa_e rfl h) rfl (by decide)
  replace h := qa_aload (n := 0) (q := 2) (qa_e rfl h) rfl g0
  replace h := qa_gr (b := 4) (j := 0) (q := 5) (qa_e rfl h) rfl hM rfl (by decide)
  replace h := qa_gi (j := 1) (q := 8) (qa_e rfl h) rfl hM es rfl (by decide)
  replace h := qa_ishl (q := 9) (qa_e rfl h) rfl
  replace h := qa_push (z := (1 : Int32)) (q := 10) (qa_e rfl h) rfl (by decide)
  replace h := qa_isub (q := 11) (qa_e rfl h) rfl
  have er := qa_ri (qa_e rfl h)
  subst er
  have e0 : ma_60_3 σ = (((1 : Int32) <<< ((σ 4 1) &&& 31)) - (1 : Int32)) := by exact rfl
  rw [e0]
  exact ⟨rfl, hM, es⟩
noncomputable def mc_61_3_p4 (N : Nat) (l1 : Int32) (σ : qa_S) (s : Int32 × Int32) : (Int32 × Int32) ⊕ (Int32 × Int32) :=
  if s.1 < (σ 4 1) then
    .inl ((s.1 + (1 : Int32)), (if (ma_48 l1 s.1) = (0 : Int32) then s.2 else (s.2 ||| (σ 97 s.1.toNatClampNeg))))
  else
    .inr (s.1, s.2)
theorem md_61_3_p4 {N F : Nat} {r : Option Value × q4_M} {l1 : Int32} {σ : qa_S} (hN : F ≤ N) : ∀ f n, f ≤ n → f ≤ F → ∀ (s : Int32 × Int32) (lv : List (Nat × Value)) (M : q4_M), qa_O M → qa_s M = σ → q4_get lv 0 = some (.ref 3) → q4_get lv 1 = some (.int (l1)) → q4_get lv 2 = some (.int (s.2)) → q4_get lv 3 = some (.int (s.1)) → q4_run f 61 4 lv [] M 0 0 = some r → ∃ lv M, q4_run F 61 38 lv [] M 0 0 = some r ∧ qa_O M ∧ qa_s M = σ ∧ q4_get lv 2 = some (.int ((qa_wh (fun s => s) (mc_61_3_p4 N l1 σ) n s).2)) := by
  intro f
  induction f with
  | zero => intro n _ _ s lv M hM es _ _ _ _ h; cases h
  | succ f ih =>
    intro n hn hF s lv M hM es g0 g1 g2 g3 h
    obtain ⟨n, rfl⟩ : ∃ n1, n = n1 + 1 := ⟨n - 1, by omega⟩
    replace hn : f ≤ n := Nat.le_of_succ_le_succ hn
    have hN := Nat.le_trans (Nat.le_of_succ_le hF) hN
    replace h := qa_iload (n := 3) (q := 5) (qa_d rfl h) rfl g3
    replace h := qa_aload (n := 0) (q := 6) (qa_e rfl h) rfl g0
    replace h := qa_gr (b := 4) (j := 0) (q := 9) (qa_e rfl h) rfl hM rfl (by decide)
    replace h := qa_gi (j := 1) (q := 12) (qa_e rfl h) rfl hM es rfl (by decide)
    by_cases c1 : s.1 < (σ 4 1)
    · replace h := qa_iff (q := 15) (qa_e rfl h) rfl (qa_F_ge c1)
      replace h := qa_iload (n := 1) (q := 16) (qa_e rfl h) rfl g1
      replace h := qa_iload (n := 3) (q := 17) (qa_e rfl h) rfl g3
      obtain ⟨M, h, hM, es⟩ := qa_c1 (y := 48) (as := [.int (l1), .int (s.1)]) (rest := []) (i := .invokestatic 48) (q := 20) (qa_e rfl h) (Or.inr rfl) rfl rfl (by decide) rfl (fun r hc => mb_48 hM es hc)
      obtain ⟨lv, M, h, hM, es, g0, g1, g2, g3⟩ : ∃ lv M, q4_run f 61 32 lv [] M 0 0 = some r ∧ qa_O M ∧ qa_s M = σ ∧ q4_get lv 0 = some (.ref 3) ∧ q4_get lv 1 = some (.int (l1)) ∧ q4_get lv 2 = some (.int ((if (ma_48 l1 s.1) = (0 : Int32) then s.2 else (s.2 ||| (σ 97 s.1.toNatClampNeg))))) ∧ q4_get lv 3 = some (.int (s.1)) := by
        by_cases c2 : (ma_48 l1 s.1) = (0 : Int32)
        · replace h := qa_ict (q := 32) (qa_e rfl h) rfl (qa_T_eq c2)
          exact ⟨lv, M, h, hM, es, g0, g1, (qa_gi1 c2 g2), g3⟩
        · replace h := qa_icf (q := 23) (qa_e rfl h) rfl (qa_F_eq c2)
          replace h := qa_iload (n := 2) (q := 24) (qa_e rfl h) rfl g2
          replace h := qa_aload (n := 0) (q := 25) (qa_e rfl h) rfl g0
          replace h := qa_gr (b := 97) (j := 14) (q := 28) (qa_e rfl h) rfl hM rfl (by decide)
          replace h := qa_iload (n := 3) (q := 29) (qa_e rfl h) rfl g3
          replace h := qa_iaload (jn := s.1.toNatClampNeg) (q := 30) (qa_e rfl h) rfl hM es rfl
          replace h := qa_ior (q := 31) (qa_e rfl h) rfl
          obtain ⟨lv, h, g, T⟩ := qa_istore (n := 2) (q := 32) (qa_e rfl h) rfl
          replace g0 := T _ _ g0 (by decide) (Or.inr rfl)
          replace g1 := T _ _ g1 (by decide) (Or.inr rfl)
          replace g3 := T _ _ g3 (by decide) (Or.inr rfl)
          have g2 := g
          clear g T
          exact ⟨lv, M, h, hM, es, g0, g1, (qa_gi0 c2 g2), g3⟩
      obtain ⟨lv, h, g, T⟩ := qa_iinc (n := 3) (z := (1 : Int32)) (q := 35) (qa_e rfl h) rfl (by decide) g3
      replace g0 := T _ _ g0 (by decide) (Or.inr rfl)
      replace g1 := T _ _ g1 (by decide) (Or.inr rfl)
      replace g2 := T _ _ g2 (by decide) (Or.inr rfl)
      replace g3 := g
      clear g T
      replace h := qa_goto (q := 4) (qa_e rfl h) rfl
      have e0 : mc_61_3_p4 N l1 σ s = .inl ((s.1 + (1 : Int32)), (if (ma_48 l1 s.1) = (0 : Int32) then s.2 else (s.2 ||| (σ 97 s.1.toNatClampNeg)))) := by exact Eq.trans (if_pos c1) (rfl)
      rw [qa_whl e0]
      exact ih n hn (Nat.le_of_succ_le hF) ((s.1 + (1 : Int32)), (if (ma_48 l1 s.1) = (0 : Int32) then s.2 else (s.2 ||| (σ 97 s.1.toNatClampNeg)))) _ _ hM es g0 g1 g2 g3 h
    · replace h := qa_ift (q := 38) (qa_e rfl h) rfl (qa_T_ge c1)
      have e0 : mc_61_3_p4 N l1 σ s = .inr (s.1, s.2) := by exact Eq.trans (if_neg c1) (rfl)
      rw [qa_whr e0]
      exact ⟨_, _, q61_mono f F _ _ _ _ _ _ _ _ (Nat.le_of_succ_le hF) h, hM, es, g2⟩
/-- BuriedBySevens, twosBy, (I)I -/
noncomputable def ma_61_3 (N : Nat) (a1 : Int32) (σ : qa_S) : Int32 :=
  qa_in ((qa_wh (fun s => s) (mc_61_3_p4 N a1 σ) N ((0 : Int32), (0 : Int32)))) fun r1 =>
  r1.2
theorem mb_61_3 {f N : Nat} (hN : f ≤ N) {M : q4_M} {r : Option Value × q4_M} {σ : qa_S} {a1 : Int32} (hM : qa_O M) (es : qa_s M = σ) (h : q4_run f 61 0 (lv_args 0 [.ref 3, .int (a1)]) [] M 0 0 = some r) : r.1 = some (.int ((ma_61_3 N a1 σ))) ∧ qa_O r.2 ∧ qa_s r.2 = σ := by
  obtain ⟨lv, el⟩ : ∃ l, l = lv_args 0 [.ref 3, .int (a1)] := ⟨_, rfl⟩
  have g0 : q4_get lv 0 = some (.ref 3) := by rw [el]; rfl
  have g1 : q4_get lv 1 = some (.int (a1)) := by rw [el]; rfl
  rw [← el] at h
  clear el
  replace h := qa_push (z := (0 : Int32)) (q := 1) (qa_e rfl h) rfl (by decide)
  obtain ⟨lv, h, g, T⟩ := qa_istore (n := 2) (q := 2) (qa_e rfl h) rfl
  replace g0 := T _ _ g0 (by decide) (Or.inr rfl)
  replace g1 := T _ _ g1 (by decide) (Or.inr rfl)
  have g2 := g
  clear g T
  replace h := qa_push (z := (0 : Int32)) (q := 3) (qa_e rfl h) rfl (by decide)
  obtain ⟨lv, h, g, T⟩ := qa_istore (n := 3) (q := 4) (qa_e rfl h) rfl
  replace g0 := T _ _ g0 (by decide) (Or.inr rfl)
  replace g1 := T _ _ g1 (by decide) (Or.inr rfl)
  replace g2 := T _ _ g2 (by decide) (Or.inr rfl)
  have g3 := g
  clear g T
  obtain ⟨r1, er1⟩ : ∃ x, x = (qa_wh (fun s => s) (mc_61_3_p4 N a1 σ) N ((0 : Int32), (0 : Int32))) := ⟨_, rfl⟩
  have L := md_61_3_p4 (l1 := a1) (σ := σ) (F := f) (N := N) (r := r) hN f N hN (Nat.le_refl f) ((0 : Int32), (0 : Int32)) _ _ hM es g0 g1 g2 g3 h
  rw [← er1] at L
  obtain ⟨lv, M, h, hM, es, g2⟩ := L
  replace h := qa_iload (n := 2) (q := 39) (qa_e rfl h) rfl g2
  have er := qa_ri (qa_e rfl h)
  subst er
  have e0 : ma_61_3 N a1 σ = r1.2 := by exact Eq.trans (qa_ie er1) (rfl)
  rw [e0]
  exact ⟨rfl, hM, es⟩
/-- java/lang/Integer, bitCount, (I)I -/
noncomputable def ma_63 (a0 : Int32) : Int32 :=
  ((((((((a0 - (((a0).toUInt32 >>> (((1 : Int32)).toUInt32 &&& Int32.toUInt32 31)).toInt32 &&& (1431655765 : Int32))) &&& (858993459 : Int32)) + ((((a0 - (((a0).toUInt32 >>> (((1 : Int32)).toUInt32 &&& Int32.toUInt32 31)).toInt32 &&& (1431655765 : Int32)))).toUInt32 >>> (((2 : Int32)).toUInt32 &&& Int32.toUInt32 31)).toInt32 &&& (858993459 : Int32))) + (((((a0 - (((a0).toUInt32 >>> (((1 : Int32)).toUInt32 &&& Int32.toUInt32 31)).toInt32 &&& (1431655765 : Int32))) &&& (858993459 : Int32)) + ((((a0 - (((a0).toUInt32 >>> (((1 : Int32)).toUInt32 &&& Int32.toUInt32 31)).toInt32 &&& (1431655765 : Int32)))).toUInt32 >>> (((2 : Int32)).toUInt32 &&& Int32.toUInt32 31)).toInt32 &&& (858993459 : Int32)))).toUInt32 >>> (((4 : Int32)).toUInt32 &&& Int32.toUInt32 31)).toInt32) &&& (252645135 : Int32)) + (((((((a0 - (((a0).toUInt32 >>> (((1 : Int32)).toUInt32 &&& Int32.toUInt32 31)).toInt32 &&& (1431655765 : Int32))) &&& (858993459 : Int32)) + ((((a0 - (((a0).toUInt32 >>> (((1 : Int32)).toUInt32 &&& Int32.toUInt32 31)).toInt32 &&& (1431655765 : Int32)))).toUInt32 >>> (((2 : Int32)).toUInt32 &&& Int32.toUInt32 31)).toInt32 &&& (858993459 : Int32))) + (((((a0 - (((a0).toUInt32 >>> (((1 : Int32)).toUInt32 &&& Int32.toUInt32 31)).toInt32 &&& (1431655765 : Int32))) &&& (858993459 : Int32)) + ((((a0 - (((a0).toUInt32 >>> (((1 : Int32)).toUInt32 &&& Int32.toUInt32 31)).toInt32 &&& (1431655765 : Int32)))).toUInt32 >>> (((2 : Int32)).toUInt32 &&& Int32.toUInt32 31)).toInt32 &&& (858993459 : Int32)))).toUInt32 >>> (((4 : Int32)).toUInt32 &&& Int32.toUInt32 31)).toInt32) &&& (252645135 : Int32))).toUInt32 >>> (((8 : Int32)).toUInt32 &&& Int32.toUInt32 31)).toInt32) + ((((((((a0 - (((a0).toUInt32 >>> (((1 : Int32)).toUInt32 &&& Int32.toUInt32 31)).toInt32 &&& (1431655765 : Int32))) &&& (858993459 : Int32)) + ((((a0 - (((a0).toUInt32 >>> (((1 : Int32)).toUInt32 &&& Int32.toUInt32 31)).toInt32 &&& (1431655765 : Int32)))).toUInt32 >>> (((2 : Int32)).toUInt32 &&& Int32.toUInt32 31)).toInt32 &&& (858993459 : Int32))) + (((((a0 - (((a0).toUInt32 >>> (((1 : Int32)).toUInt32 &&& Int32.toUInt32 31)).toInt32 &&& (1431655765 : Int32))) &&& (858993459 : Int32)) + ((((a0 - (((a0).toUInt32 >>> (((1 : Int32)).toUInt32 &&& Int32.toUInt32 31)).toInt32 &&& (1431655765 : Int32)))).toUInt32 >>> (((2 : Int32)).toUInt32 &&& Int32.toUInt32 31)).toInt32 &&& (858993459 : Int32)))).toUInt32 >>> (((4 : Int32)).toUInt32 &&& Int32.toUInt32 31)).toInt32) &&& (252645135 : Int32)) + (((((((a0 - (((a0).toUInt32 >>> (((1 : Int32)).toUInt32 &&& Int32.toUInt32 31)).toInt32 &&& (1431655765 : Int32))) &&& (858993459 : Int32)) + ((((a0 - (((a0).toUInt32 >>> (((1 : Int32)).toUInt32 &&& Int32.toUInt32 31)).toInt32 &&& (1431655765 : Int32)))).toUInt32 >>> (((2 : Int32)).toUInt32 &&& Int32.toUInt32 31)).toInt32 &&& (858993459 : Int32))) + (((((a0 - (((a0).toUInt32 >>> (((1 : Int32)).toUInt32 &&& Int32.toUInt32 31)).toInt32 &&& (1431655765 : Int32))) &&& (858993459 : Int32)) + ((((a0 - (((a0).toUInt32 >>> (((1 : Int32)).toUInt32 &&& Int32.toUInt32 31)).toInt32 &&& (1431655765 : Int32)))).toUInt32 >>> (((2 : Int32)).toUInt32 &&& Int32.toUInt32 31)).toInt32 &&& (858993459 : Int32)))).toUInt32 >>> (((4 : Int32)).toUInt32 &&& Int32.toUInt32 31)).toInt32) &&& (252645135 : Int32))).toUInt32 >>> (((8 : Int32)).toUInt32 &&& Int32.toUInt32 31)).toInt32)).toUInt32 >>> (((16 : Int32)).toUInt32 &&& Int32.toUInt32 31)).toInt32) &&& (63 : Int32))
theorem mb_63 {f : Nat} {M : q4_M} {r : Option Value × q4_M} {σ : qa_S} {a0 : Int32} (hM : qa_O M) (es : qa_s M = σ) (h : q4_run f 63 0 (lv_args 0 [.int (a0)]) [] M 0 0 = some r) : r.1 = some (.int ((ma_63 a0))) ∧ qa_O r.2 ∧ qa_s r.2 = σ := by
  obtain ⟨lv, el⟩ : ∃ l, l = lv_args 0 [.int (a0)] := ⟨_, rfl⟩
  have g0 : q4_get lv 0 = some (.int (a0)) := by rw [el]; rfl
  rw [← el] at h
  clear el
  replace h := qa_iload (n := 0) (q := 1) (qa_e rfl h) rfl g0
  replace h := qa_iload (n := 0) (q := 2) (qa_e rfl h) rfl g0
  replace h := qa_push (z := (1 : Int32)) (q := 3) (qa_e rfl h) rfl (by decide)
  replace h := qa_iushr (q := 4) (qa_e rfl h) rfl
  replace h := qa_push (z := (1431655765 : Int32)) (q := 7) (qa_e rfl h) rfl (by decide)
  replace h := qa_iand (q := 8) (qa_e rfl h) rfl
  replace h := qa_isub (q := 9) (qa_e rfl h) rfl
  obtain ⟨lv, h, g, T⟩ := qa_istore (n := 0) (q := 10) (qa_e rfl h) rfl
  have g0 := g
  clear g T
  replace h := qa_iload (n := 0) (q := 11) (qa_e rfl h) rfl g0
  replace h := qa_push (z := (858993459 : Int32)) (q := 14) (qa_e rfl h) rfl (by decide)
  replace h := qa_iand (q := 15) (qa_e rfl h) rfl
  replace h := qa_iload (n := 0) (q := 16) (qa_e rfl h) rfl g0
  replace h := qa_push (z := (2 : Int32)) (q := 17) (qa_e rfl h) rfl (by decide)
  replace h := qa_iushr (q := 18) (qa_e rfl h) rfl
  replace h := qa_push (z := (858993459 : Int32)) (q := 21) (qa_e rfl h) rfl (by decide)
  replace h := qa_iand (q := 22) (qa_e rfl h) rfl
  replace h := qa_iadd (q := 23) (qa_e rfl h) rfl
  obtain ⟨lv, h, g, T⟩ := qa_istore (n := 0) (q := 24) (qa_e rfl h) rfl
  have g0 := g
  clear g T
  replace h := qa_iload (n := 0) (q := 25) (qa_e rfl h) rfl g0
  replace h := qa_iload (n := 0) (q := 26) (qa_e rfl h) rfl g0
  replace h := qa_push (z := (4 : Int32)) (q := 27) (qa_e rfl h) rfl (by decide)
  replace h := qa_iushr (q := 28) (qa_e rfl h) rfl
  replace h := qa_iadd (q := 29) (qa_e rfl h) rfl
  replace h := qa_push (z := (252645135 : Int32)) (q := 32) (qa_e rfl h) rfl (by decide)
  replace h := qa_iand (q := 33) (qa_e rfl h) rfl
  obtain ⟨lv, h, g, T⟩ := qa_istore (n := 0) (q := 34) (qa_e rfl h) rfl
  have g0 := g
  clear g T
  replace h := qa_iload (n := 0) (q := 35) (qa_e rfl h) rfl g0
  replace h := qa_iload (n := 0) (q := 36) (qa_e rfl h) rfl g0
  replace h := qa_push (z := (8 : Int32)) (q := 38) (qa_e rfl h) rfl (by decide)
  replace h := qa_iushr (q := 39) (qa_e rfl h) rfl
  replace h := qa_iadd (q := 40) (qa_e rfl h) rfl
  obtain ⟨lv, h, g, T⟩ := qa_istore (n := 0) (q := 41) (qa_e rfl h) rfl
  have g0 := g
  clear g T
  replace h := qa_iload (n := 0) (q := 42) (qa_e rfl h) rfl g0
  replace h := qa_iload (n := 0) (q := 43) (qa_e rfl h) rfl g0
  replace h := qa_push (z := (16 : Int32)) (q := 45) (qa_e rfl h) rfl (by decide)
  replace h := qa_iushr (q := 46) (qa_e rfl h) rfl
  replace h := qa_iadd (q := 47) (qa_e rfl h) rfl
  obtain ⟨lv, h, g, T⟩ := qa_istore (n := 0) (q := 48) (qa_e rfl h) rfl
  have g0 := g
  clear g T
  replace h := qa_iload (n := 0) (q := 49) (qa_e rfl h) rfl g0
  replace h := qa_push (z := (63 : Int32)) (q := 51) (qa_e rfl h) rfl (by decide)
  replace h := qa_iand (q := 52) (qa_e rfl h) rfl
  have er := qa_ri (qa_e rfl h)
  subst er
  have e0 : ma_63 a0 = ((((((((a0 - (((a0).toUInt32 >>> (((1 : Int32)).toUInt32 &&& Int32.toUInt32 31)).toInt32 &&& (1431655765 : Int32))) &&& (858993459 : Int32)) + ((((a0 - (((a0).toUInt32 >>> (((1 : Int32)).toUInt32 &&& Int32.toUInt32 31)).toInt32 &&& (1431655765 : Int32)))).toUInt32 >>> (((2 : Int32)).toUInt32 &&& Int32.toUInt32 31)).toInt32 &&& (858993459 : Int32))) + (((((a0 - (((a0).toUInt32 >>> (((1 : Int32)).toUInt32 &&& Int32.toUInt32 31)).toInt32 &&& (1431655765 : Int32))) &&& (858993459 : Int32)) + ((((a0 - (((a0).toUInt32 >>> (((1 : Int32)).toUInt32 &&& Int32.toUInt32 31)).toInt32 &&& (1431655765 : Int32)))).toUInt32 >>> (((2 : Int32)).toUInt32 &&& Int32.toUInt32 31)).toInt32 &&& (858993459 : Int32)))).toUInt32 >>> (((4 : Int32)).toUInt32 &&& Int32.toUInt32 31)).toInt32) &&& (252645135 : Int32)) + (((((((a0 - (((a0).toUInt32 >>> (((1 : Int32)).toUInt32 &&& Int32.toUInt32 31)).toInt32 &&& (1431655765 : Int32))) &&& (858993459 : Int32)) + ((((a0 - (((a0).toUInt32 >>> (((1 : Int32)).toUInt32 &&& Int32.toUInt32 31)).toInt32 &&& (1431655765 : Int32)))).toUInt32 >>> (((2 : Int32)).toUInt32 &&& Int32.toUInt32 31)).toInt32 &&& (858993459 : Int32))) + (((((a0 - (((a0).toUInt32 >>> (((1 : Int32)).toUInt32 &&& Int32.toUInt32 31)).toInt32 &&& (1431655765 : Int32))) &&& (858993459 : Int32)) + ((((a0 - (((a0).toUInt32 >>> (((1 : Int32)).toUInt32 &&& Int32.toUInt32 31)).toInt32 &&& (1431655765 : Int32)))).toUInt32 >>> (((2 : Int32)).toUInt32 &&& Int32.toUInt32 31)).toInt32 &&& (858993459 : Int32)))).toUInt32 >>> (((4 : Int32)).toUInt32 &&& Int32.toUInt32 31)).toInt32) &&& (252645135 : Int32))).toUInt32 >>> (((8 : Int32)).toUInt32 &&& Int32.toUInt32 31)).toInt32) + ((((((((a0 - (((a0).toUInt32 >>> (((1 : Int32)).toUInt32 &&& Int32.toUInt32 31)).toInt32 &&& (1431655765 : Int32))) &&& (858993459 : Int32)) + ((((a0 - (((a0).toUInt32 >>> (((1 : Int32)).toUInt32 &&& Int32.toUInt32 31)).toInt32 &&& (1431655765 : Int32)))).toUInt32 >>> (((2 : Int32)).toUInt32 &&& Int32.toUInt32 31)).toInt32 &&& (858993459 : Int32))) + (((((a0 - (((a0).toUInt32 >>> (((1 : Int32)).toUInt32 &&& Int32.toUInt32 31)).toInt32 &&& (1431655765 : Int32))) &&& (858993459 : Int32)) + ((((a0 - (((a0).toUInt32 >>> (((1 : Int32)).toUInt32 &&& Int32.toUInt32 31)).toInt32 &&& (1431655765 : Int32)))).toUInt32 >>> (((2 : Int32)).toUInt32 &&& Int32.toUInt32 31)).toInt32 &&& (858993459 : Int32)))).toUInt32 >>> (((4 : Int32)).toUInt32 &&& Int32.toUInt32 31)).toInt32) &&& (252645135 : Int32)) + (((((((a0 - (((a0).toUInt32 >>> (((1 : Int32)).toUInt32 &&& Int32.toUInt32 31)).toInt32 &&& (1431655765 : Int32))) &&& (858993459 : Int32)) + ((((a0 - (((a0).toUInt32 >>> (((1 : Int32)).toUInt32 &&& Int32.toUInt32 31)).toInt32 &&& (1431655765 : Int32)))).toUInt32 >>> (((2 : Int32)).toUInt32 &&& Int32.toUInt32 31)).toInt32 &&& (858993459 : Int32))) + (((((a0 - (((a0).toUInt32 >>> (((1 : Int32)).toUInt32 &&& Int32.toUInt32 31)).toInt32 &&& (1431655765 : Int32))) &&& (858993459 : Int32)) + ((((a0 - (((a0).toUInt32 >>> (((1 : Int32)).toUInt32 &&& Int32.toUInt32 31)).toInt32 &&& (1431655765 : Int32)))).toUInt32 >>> (((2 : Int32)).toUInt32 &&& Int32.toUInt32 31)).toInt32 &&& (858993459 : Int32)))).toUInt32 >>> (((4 : Int32)).toUInt32 &&& Int32.toUInt32 31)).toInt32) &&& (252645135 : Int32))).toUInt32 >>> (((8 : Int32)).toUInt32 &&& Int32.toUInt32 31)).toInt32)).toUInt32 >>> (((16 : Int32)).toUInt32 &&& Int32.toUInt32 31)).toInt32) &&& (63 : Int32)) := by exact rfl
  rw [e0]
  exact ⟨rfl, hM, es⟩
noncomputable def mc_62_3_p32 (N : Nat) (l1 : Int32) (l4 : Int32) (σ : qa_S) (s : Int32 × Int32) : (Int32 × Int32) ⊕ ((Int32) ⊕ (Int32 × Int32)) :=
  if s.1 < (σ 4 0) then
    if (l1 &&& s.2) = (0 : Int32) then
      .inl ((s.1 + (1 : Int32)), (s.2 <<< ((1 : Int32) &&& 31)))
    else
      .inr (.inl (((10 : Int32) * l4) + s.1))
  else
    .inr (.inr (s.1, s.2))
theorem md_62_3_p32 {N F : Nat} {r : Option Value × q4_M} {l1 : Int32} {l4 : Int32} {σ : qa_S} (hN : F ≤ N) : ∀ f n, f ≤ n → f ≤ F → ∀ (s : Int32 × Int32) (lv : List (Nat × Value)) (M : q4_M), qa_O M → qa_s M = σ → q4_get lv 0 = some (.ref 3) → q4_get lv 1 = some (.int (l1)) → q4_get lv 3 = some (.int (s.2)) → q4_get lv 4 = some (.int (l4)) → q4_get lv 5 = some (.int (s.1)) → q4_run f 62 32 lv [] M 0 0 = some r → (∀ b, (qa_wh (fun s => .inr s) (mc_62_3_p32 N l1 l4 σ) n s) = .inl b → r.1 = some (.int (b)) ∧ qa_O r.2 ∧ qa_s r.2 = σ) ∧ (∀ b, (qa_wh (fun s => .inr s) (mc_62_3_p32 N l1 l4 σ) n s) = .inr b → ∃ lv M, q4_run F 62 69 lv [] M 0 0 = some r ∧ qa_O M ∧ qa_s M = σ ∧ q4_get lv 0 = some (.ref 3) ∧ q4_get lv 1 = some (.int (l1)) ∧ q4_get lv 3 = some (.int (b.2)) ∧ q4_get lv 4 = some (.int (l4))) := by
  intro f
  induction f with
  | zero => intro n _ _ s lv M hM es _ _ _ _ _ h; cases h
  | succ f ih =>
    intro n hn hF s lv M hM es g0 g1 g3 g4 g5 h
    obtain ⟨n, rfl⟩ : ∃ n1, n = n1 + 1 := ⟨n - 1, by omega⟩
    replace hn : f ≤ n := Nat.le_of_succ_le_succ hn
    have hN := Nat.le_trans (Nat.le_of_succ_le hF) hN
    replace h := qa_iload (n := 5) (q := 34) (qa_d rfl h) rfl g5
    replace h := qa_aload (n := 0) (q := 35) (qa_e rfl h) rfl g0
    replace h := qa_gr (b := 4) (j := 0) (q := 38) (qa_e rfl h) rfl hM rfl (by decide)
    replace h := qa_gi (j := 0) (q := 41) (qa_e rfl h) rfl hM es rfl (by decide)
    by_cases c1 : s.1 < (σ 4 0)
    · replace h := qa_iff (q := 44) (qa_e rfl h) rfl (qa_F_ge c1)
      replace h := qa_iload (n := 1) (q := 45) (qa_e rfl h) rfl g1
      replace h := qa_iload (n := 3) (q := 46) (qa_e rfl h) rfl g3
      replace h := qa_iand (q := 47) (qa_e rfl h) rfl
      by_cases c2 : (l1 &&& s.2) = (0 : Int32)
      · replace h := qa_ict (q := 59) (qa_e rfl h) rfl (qa_T_eq c2)
        replace h := qa_iload (n := 3) (q := 60) (qa_e rfl h) rfl g3
        replace h := qa_push (z := (1 : Int32)) (q := 61) (qa_e rfl h) rfl (by decide)
        replace h := qa_ishl (q := 62) (qa_e rfl h) rfl
        obtain ⟨lv, h, g, T⟩ := qa_istore (n := 3) (q := 63) (qa_e rfl h) rfl
        replace g0 := T _ _ g0 (by decide) (Or.inr rfl)
        replace g1 := T _ _ g1 (by decide) (Or.inr rfl)
        replace g4 := T _ _ g4 (by decide) (Or.inr rfl)
        replace g5 := T _ _ g5 (by decide) (Or.inr rfl)
        have g3 := g
        clear g T
        obtain ⟨lv, h, g, T⟩ := qa_iinc (n := 5) (z := (1 : Int32)) (q := 66) (qa_e rfl h) rfl (by decide) g5
        replace g0 := T _ _ g0 (by decide) (Or.inr rfl)
        replace g1 := T _ _ g1 (by decide) (Or.inr rfl)
        replace g3 := T _ _ g3 (by decide) (Or.inr rfl)
        replace g4 := T _ _ g4 (by decide) (Or.inr rfl)
        replace g5 := g
        clear g T
        replace h := qa_goto (q := 32) (qa_e rfl h) rfl
        have e0 : mc_62_3_p32 N l1 l4 σ s = .inl ((s.1 + (1 : Int32)), (s.2 <<< ((1 : Int32) &&& 31))) := by exact Eq.trans (if_pos c1) (Eq.trans (if_pos c2) (rfl))
        rw [qa_whl e0]
        exact ih n hn (Nat.le_of_succ_le hF) ((s.1 + (1 : Int32)), (s.2 <<< ((1 : Int32) &&& 31))) _ _ hM es g0 g1 g3 g4 g5 h
      · replace h := qa_icf (q := 50) (qa_e rfl h) rfl (qa_F_eq c2)
        replace h := qa_push (z := (10 : Int32)) (q := 52) (qa_e rfl h) rfl (by decide)
        replace h := qa_iload (n := 4) (q := 54) (qa_e rfl h) rfl g4
        replace h := qa_imul (q := 55) (qa_e rfl h) rfl
        replace h := qa_iload (n := 5) (q := 57) (qa_e rfl h) rfl g5
        replace h := qa_iadd (q := 58) (qa_e rfl h) rfl
        have er := qa_ri (qa_e rfl h)
        subst er
        have e0 : mc_62_3_p32 N l1 l4 σ s = .inr (.inl (((10 : Int32) * l4) + s.1)) := by exact Eq.trans (if_pos c1) (Eq.trans (if_neg c2) (rfl))
        rw [qa_whr e0]
        exact ⟨fun b hb => (by have e := Sum.inl.inj hb; subst e; exact ⟨rfl, hM, es⟩), fun b hb => nomatch hb⟩
    · replace h := qa_ift (q := 69) (qa_e rfl h) rfl (qa_T_ge c1)
      have e0 : mc_62_3_p32 N l1 l4 σ s = .inr (.inr (s.1, s.2)) := by exact Eq.trans (if_neg c1) (rfl)
      rw [qa_whr e0]
      exact ⟨fun b hb => (nomatch hb), fun b hb => (by have e := Sum.inr.inj hb; subst e; exact ⟨_, _, q61_mono f F _ _ _ _ _ _ _ _ (Nat.le_of_succ_le hF) h, hM, es, g0, g1, g3, g4⟩)⟩
noncomputable def mc_62_3_p14 (N : Nat) (l1 : Int32) (σ : qa_S) (s : Int32 × Int32) : (Int32 × Int32) ⊕ ((Int32) ⊕ (Int32 × Int32)) :=
  if s.1 < (σ 4 0) then
    qa_in ((qa_wh (fun s => .inr s) (mc_62_3_p32 N l1 s.1 σ) N ((s.1 + (1 : Int32)), s.2))) fun r2 =>
    qa_cs r2
      (fun b3 =>
        .inr (.inl b3))
      (fun b3 =>
        .inl ((s.1 + (1 : Int32)), b3.2))
  else
    .inr (.inr (s.1, s.2))
theorem md_62_3_p14 {N F : Nat} {r : Option Value × q4_M} {l1 : Int32} {σ : qa_S} (hN : F ≤ N) : ∀ f n, f ≤ n → f ≤ F → ∀ (s : Int32 × Int32) (lv : List (Nat × Value)) (M : q4_M), qa_O M → qa_s M = σ → q4_get lv 0 = some (.ref 3) → q4_get lv 1 = some (.int (l1)) → q4_get lv 3 = some (.int (s.2)) → q4_get lv 4 = some (.int (s.1)) → q4_run f 62 14 lv [] M 0 0 = some r → (∀ b, (qa_wh (fun s => .inr s) (mc_62_3_p14 N l1 σ) n s) = .inl b → r.1 = some (.int (b)) ∧ qa_O r.2 ∧ qa_s r.2 = σ) ∧ (∀ b, (qa_wh (fun s => .inr s) (mc_62_3_p14 N l1 σ) n s) = .inr b → ∃ lv M, q4_run F 62 75 lv [] M 0 0 = some r ∧ qa_O M ∧ qa_s M = σ) := by
  intro f
  induction f with
  | zero => intro n _ _ s lv M hM es _ _ _ _ h; cases h
  | succ f ih =>
    intro n hn hF s lv M hM es g0 g1 g3 g4 h
    obtain ⟨n, rfl⟩ : ∃ n1, n = n1 + 1 := ⟨n - 1, by omega⟩
    replace hn : f ≤ n := Nat.le_of_succ_le_succ hn
    have hN := Nat.le_trans (Nat.le_of_succ_le hF) hN
    replace h := qa_iload (n := 4) (q := 16) (qa_d rfl h) rfl g4
    replace h := qa_aload (n := 0) (q := 17) (qa_e rfl h) rfl g0
    replace h := qa_gr (b := 4) (j := 0) (q := 20) (qa_e rfl h) rfl hM rfl (by decide)
    replace h := qa_gi (j := 0) (q := 23) (qa_e rfl h) rfl hM es rfl (by decide)
    by_cases c1 : s.1 < (σ 4 0)
    · replace h := qa_iff (q := 26) (qa_e rfl h) rfl (qa_F_ge c1)
      replace h := qa_iload (n := 4) (q := 28) (qa_e rfl h) rfl g4
      replace h := qa_push (z := (1 : Int32)) (q := 29) (qa_e rfl h) rfl (by decide)
      replace h := qa_iadd (q := 30) (qa_e rfl h) rfl
      obtain ⟨lv, h, g, T⟩ := qa_istore (n := 5) (q := 32) (qa_e rfl h) rfl
      replace g0 := T _ _ g0 (by decide) (Or.inr rfl)
      replace g1 := T _ _ g1 (by decide) (Or.inr rfl)
      replace g3 := T _ _ g3 (by decide) (Or.inr rfl)
      replace g4 := T _ _ g4 (by decide) (Or.inr rfl)
      have g5 := g
      clear g T
      obtain ⟨r2, er2⟩ : ∃ x, x = (qa_wh (fun s => .inr s) (mc_62_3_p32 N l1 s.1 σ) N ((s.1 + (1 : Int32)), s.2)) := ⟨_, rfl⟩
      have L := md_62_3_p32 (l1 := l1) (l4 := s.1) (σ := σ) (F := f) (N := N) (r := r) hN f N hN (Nat.le_refl f) ((s.1 + (1 : Int32)), s.2) _ _ hM es g0 g1 g3 g4 g5 h
      rw [← er2] at L
      rcases qr2 : r2 with b3 | b3
      · obtain ⟨h, hM, es⟩ := L.1 b3 qr2
        have e0 : mc_62_3_p14 N l1 σ s = .inr (.inl b3) := by exact Eq.trans (if_pos c1) (Eq.trans (qa_ie er2) (Eq.trans (qa_csl qr2 _ _) (rfl)))
        rw [qa_whr e0]
        exact ⟨fun b hb => (by have e := Sum.inl.inj hb; subst e; exact ⟨h, hM, es⟩), fun b hb => nomatch hb⟩
      · obtain ⟨lv, M, h, hM, es, g0, g1, g3, g4⟩ := L.2 b3 qr2
        obtain ⟨lv, h, g, T⟩ := qa_iinc (n := 4) (z := (1 : Int32)) (q := 72) (qa_e rfl h) rfl (by decide) g4
        replace g0 := T _ _ g0 (by decide) (Or.inr rfl)
        replace g1 := T _ _ g1 (by decide) (Or.inr rfl)
        replace g3 := T _ _ g3 (by decide) (Or.inr rfl)
        replace g4 := g
        clear g T
        replace h := qa_goto (q := 14) (qa_e rfl h) rfl
        have e0 : mc_62_3_p14 N l1 σ s = .inl ((s.1 + (1 : Int32)), b3.2) := by exact Eq.trans (if_pos c1) (Eq.trans (qa_ie er2) (Eq.trans (qa_csr qr2 _ _) (rfl)))
        rw [qa_whl e0]
        exact ih n hn (Nat.le_of_succ_le hF) ((s.1 + (1 : Int32)), b3.2) _ _ hM es g0 g1 g3 g4 h
    · replace h := qa_ift (q := 75) (qa_e rfl h) rfl (qa_T_ge c1)
      have e0 : mc_62_3_p14 N l1 σ s = .inr (.inr (s.1, s.2)) := by exact Eq.trans (if_neg c1) (rfl)
      rw [qa_whr e0]
      exact ⟨fun b hb => (nomatch hb), fun b hb => (by have e := Sum.inr.inj hb; subst e; exact ⟨_, _, q61_mono f F _ _ _ _ _ _ _ _ (Nat.le_of_succ_le hF) h, hM, es⟩)⟩
/-- BuriedBySevens, howManyOrFirst, (II)I -/
noncomputable def ma_62_3 (N : Nat) (a1 : Int32) (a2 : Int32) (σ : qa_S) : Int32 :=
  if a2 = (0 : Int32) then
    (ma_63 a1)
  else
    qa_in ((qa_wh (fun s => .inr s) (mc_62_3_p14 N a1 σ) N ((0 : Int32), (1 : Int32)))) fun r2 =>
    qa_cs r2
      (fun b3 =>
        b3)
      (fun b3 =>
        (-9 : Int32))
theorem mb_62_3 {f N : Nat} (hN : f ≤ N) {M : q4_M} {r : Option Value × q4_M} {σ : qa_S} {a1 : Int32} {a2 : Int32} (hM : qa_O M) (es : qa_s M = σ) (h : q4_run f 62 0 (lv_args 0 [.ref 3, .int (a1), .int (a2)]) [] M 0 0 = some r) : r.1 = some (.int ((ma_62_3 N a1 a2 σ))) ∧ qa_O r.2 ∧ qa_s r.2 = σ := by
  obtain ⟨lv, el⟩ : ∃ l, l = lv_args 0 [.ref 3, .int (a1), .int (a2)] := ⟨_, rfl⟩
  have g0 : q4_get lv 0 = some (.ref 3) := by rw [el]; rfl
  have g1 : q4_get lv 1 = some (.int (a1)) := by rw [el]; rfl
  have g2 : q4_get lv 2 = some (.int (a2)) := by rw [el]; rfl
  rw [← el] at h
  clear el
  replace h := qa_iload (n := 2) (q := 1) (qa_e rfl h) rfl g2
  by_cases c1 : a2 = (0 : Int32)
  · replace h := qa_icf (q := 4) (qa_e rfl h) rfl (qa_F_ne c1)
    replace h := qa_iload (n := 1) (q := 5) (qa_e rfl h) rfl g1
    obtain ⟨M, h, hM, es⟩ := qa_c1 (y := 63) (as := [.int (a1)]) (rest := []) (i := .invokestatic 63) (q := 8) (qa_e rfl h) (Or.inr rfl) rfl rfl (by decide) rfl (fun r hc => mb_63 hM es hc)
    have er := qa_ri (qa_e rfl h)
    subst er
    have e0 : ma_62_3 N a1 a2 σ = (ma_63 a1) := by exact Eq.trans (if_pos c1) (rfl)
    rw [e0]
    exact ⟨rfl, hM, es⟩
  · replace h := qa_ict (q := 9) (qa_e rfl h) rfl (qa_T_ne c1)
    replace h := qa_push (z := (1 : Int32)) (q := 10) (qa_e rfl h) rfl (by decide)
    obtain ⟨lv, h, g, T⟩ := qa_istore (n := 3) (q := 11) (qa_e rfl h) rfl
    replace g0 := T _ _ g0 (by decide) (Or.inr rfl)
    replace g1 := T _ _ g1 (by decide) (Or.inr rfl)
    have g3 := g
    clear g T
    replace h := qa_push (z := (0 : Int32)) (q := 12) (qa_e rfl h) rfl (by decide)
    obtain ⟨lv, h, g, T⟩ := qa_istore (n := 4) (q := 14) (qa_e rfl h) rfl
    replace g0 := T _ _ g0 (by decide) (Or.inr rfl)
    replace g1 := T _ _ g1 (by decide) (Or.inr rfl)
    replace g3 := T _ _ g3 (by decide) (Or.inr rfl)
    have g4 := g
    clear g T
    obtain ⟨r2, er2⟩ : ∃ x, x = (qa_wh (fun s => .inr s) (mc_62_3_p14 N a1 σ) N ((0 : Int32), (1 : Int32))) := ⟨_, rfl⟩
    have L := md_62_3_p14 (l1 := a1) (σ := σ) (F := f) (N := N) (r := r) hN f N hN (Nat.le_refl f) ((0 : Int32), (1 : Int32)) _ _ hM es g0 g1 g3 g4 h
    rw [← er2] at L
    rcases qr2 : r2 with b3 | b3
    · obtain ⟨h, hM, es⟩ := L.1 b3 qr2
      have e0 : ma_62_3 N a1 a2 σ = b3 := by exact Eq.trans (if_neg c1) (Eq.trans (qa_ie er2) (Eq.trans (qa_csl qr2 _ _) (rfl)))
      rw [e0]
      exact ⟨h, hM, es⟩
    · obtain ⟨lv, M, h, hM, es⟩ := L.2 b3 qr2
      replace h := qa_push (z := (-9 : Int32)) (q := 77) (qa_e rfl h) rfl (by decide)
      have er := qa_ri (qa_e rfl h)
      subst er
      have e0 : ma_62_3 N a1 a2 σ = (-9 : Int32) := by exact Eq.trans (if_neg c1) (Eq.trans (qa_ie er2) (Eq.trans (qa_csr qr2 _ _) (rfl)))
      rw [e0]
      exact ⟨rfl, hM, es⟩
/-- BuriedBySevens, alike, (I)I -/
noncomputable def ma_56_3 (N : Nat) (a1 : Int32) (σ : qa_S) : Int32 × qa_S :=
  if (ma_57 a1) = (0 : Int32) then
    qa_in ((ma_9_3 (-2 : Int32) σ)) fun r2 =>
    (r2.1, r2.2)
  else
    qa_in ((ma_58_3 N σ)) fun m3 =>
    qa_in ((ma_61_3 N (ma_60_3 m3) m3)) fun r4 =>
    qa_in ((ma_62_3 N ((ma_59_3 m3) &&& (r4 ^^^ (-1 : Int32))) a1 m3)) fun r5 =>
    (r5, m3)
theorem mb_56_3 {f N : Nat} (hN : f ≤ N) {M : q4_M} {r : Option Value × q4_M} {σ : qa_S} {a1 : Int32} (hM : qa_O M) (es : qa_s M = σ) (h : q4_run f 56 0 (lv_args 0 [.ref 3, .int (a1)]) [] M 0 0 = some r) : r.1 = some (.int ((ma_56_3 N a1 σ).1)) ∧ qa_O r.2 ∧ qa_s r.2 = (ma_56_3 N a1 σ).2 := by
  obtain ⟨lv, el⟩ : ∃ l, l = lv_args 0 [.ref 3, .int (a1)] := ⟨_, rfl⟩
  have g0 : q4_get lv 0 = some (.ref 3) := by rw [el]; rfl
  have g1 : q4_get lv 1 = some (.int (a1)) := by rw [el]; rfl
  rw [← el] at h
  clear el
  replace h := qa_iload (n := 1) (q := 1) (qa_e rfl h) rfl g1
  obtain ⟨M, h, hM, es⟩ := qa_c1 (y := 57) (as := [.int (a1)]) (rest := []) (i := .invokestatic 57) (q := 4) (qa_e rfl h) (Or.inr rfl) rfl rfl (by decide) rfl (fun r hc => mb_57 hM es hc)
  by_cases c1 : (ma_57 a1) = (0 : Int32)
  · replace h := qa_icf (q := 7) (qa_e rfl h) rfl (qa_F_ne c1)
    replace h := qa_aload (n := 0) (q := 8) (qa_e rfl h) rfl g0
    replace h := qa_push (z := (-2 : Int32)) (q := 10) (qa_e rfl h) rfl (by decide)
    obtain ⟨r2, er2⟩ : ∃ x, x = (ma_9_3 (-2 : Int32) σ) := ⟨_, rfl⟩
    obtain ⟨M, h, hM, es⟩ := qa_c1 (y := 9) (as := [.ref 3, .int ((-2 : Int32))]) (rest := []) (i := .invokevirtual 9) (q := 13) (qa_e rfl h) (Or.inl rfl) rfl rfl (by decide) rfl (fun r hc => mb_9_3 hM es hc)
    rw [← er2] at h es
    have er := qa_ri (qa_e rfl h)
    subst er
    have e0 : ma_56_3 N a1 σ = (r2.1, r2.2) := by exact Eq.trans (if_pos c1) (Eq.trans (qa_ie er2) (rfl))
    rw [e0]
    exact ⟨rfl, hM, es⟩
  · replace h := qa_ict (q := 14) (qa_e rfl h) rfl (qa_T_ne c1)
    replace h := qa_aload (n := 0) (q := 15) (qa_e rfl h) rfl g0
    obtain ⟨m3, em3⟩ : ∃ x, x = (ma_58_3 N σ) := ⟨_, rfl⟩
    obtain ⟨M, h, hM, es⟩ := qa_c0 (y := 58) (as := [.ref 3]) (rest := []) (i := .invokevirtual 58) (q := 18) (qa_e rfl h) (Or.inl rfl) rfl rfl (by decide) rfl (fun r hc => mb_58_3 hN hM es hc)
    rw [← em3] at es
    replace h := qa_aload (n := 0) (q := 19) (qa_e rfl h) rfl g0
    replace h := qa_aload (n := 0) (q := 20) (qa_e rfl h) rfl g0
    obtain ⟨M, h, hM, es⟩ := qa_c1 (y := 59) (as := [.ref 3]) (rest := [.ref 3]) (i := .invokevirtual 59) (q := 23) (qa_e rfl h) (Or.inl rfl) rfl rfl (by decide) rfl (fun r hc => mb_59_3 hM es hc)
    replace h := qa_aload (n := 0) (q := 24) (qa_e rfl h) rfl g0
    replace h := qa_aload (n := 0) (q := 25) (qa_e rfl h) rfl g0
    obtain ⟨M, h, hM, es⟩ := qa_c1 (y := 60) (as := [.ref 3]) (rest := [.ref 3, .int ((ma_59_3 m3)), .ref 3]) (i := .invokevirtual 60) (q := 28) (qa_e rfl h) (Or.inl rfl) rfl rfl (by decide) rfl (fun r hc => mb_60_3 hM es hc)
    obtain ⟨r4, er4⟩ : ∃ x, x = (ma_61_3 N (ma_60_3 m3) m3) := ⟨_, rfl⟩
    obtain ⟨M, h, hM, es⟩ := qa_c1 (y := 61) (as := [.ref 3, .int ((ma_60_3 m3))]) (rest := [.int ((ma_59_3 m3)), .ref 3]) (i := .invokevirtual 61) (q := 31) (qa_e rfl h) (Or.inl rfl) rfl rfl (by decide) rfl (fun r hc => mb_61_3 hN hM es hc)
    rw [← er4] at h
    replace h := qa_push (z := (-1 : Int32)) (q := 32) (qa_e rfl h) rfl (by decide)
    replace h := qa_ixor (q := 33) (qa_e rfl h) rfl
    replace h := qa_iand (q := 34) (qa_e rfl h) rfl
    replace h := qa_iload (n := 1) (q := 35) (qa_e rfl h) rfl g1
    obtain ⟨r5, er5⟩ : ∃ x, x = (ma_62_3 N ((ma_59_3 m3) &&& (r4 ^^^ (-1 : Int32))) a1 m3) := ⟨_, rfl⟩
    obtain ⟨M, h, hM, es⟩ := qa_c1 (y := 62) (as := [.ref 3, .int (((ma_59_3 m3) &&& (r4 ^^^ (-1 : Int32)))), .int (a1)]) (rest := []) (i := .invokevirtual 62) (q := 38) (qa_e rfl h) (Or.inl rfl) rfl rfl (by decide) rfl (fun r hc => mb_62_3 hN hM es hc)
    rw [← er5] at h
    have er := qa_ri (qa_e rfl h)
    subst er
    have e0 : ma_56_3 N a1 σ = (r5, m3) := by exact Eq.trans (if_neg c1) (Eq.trans (qa_ie em3) (Eq.trans (qa_ie er4) (Eq.trans (qa_ie er5) (rfl))))
    rw [e0]
    exact ⟨rfl, hM, es⟩
noncomputable def mc_68_81_p5 (N : Nat) (l1 : Int32) (l3 : Int32) (s : Int32 × qa_S) : (Int32 × qa_S) ⊕ (Int32 × qa_S) :=
  if s.1 < l3 then
    qa_in (qa_u s.2 81 s.1.toNatClampNeg l1) fun m2 =>
    .inl ((s.1 + (1 : Int32)), m2)
  else
    .inr (s.1, s.2)
theorem md_68_81_p5 {N F : Nat} {r : Option Value × q4_M} {l1 : Int32} {l3 : Int32} (hN : F ≤ N) : ∀ f n, f ≤ n → f ≤ F → ∀ (s : Int32 × qa_S) (lv : List (Nat × Value)) (M : q4_M), qa_O M → qa_s M = s.2 → q4_get lv 0 = some (.ref 81) → q4_get lv 1 = some (.int (l1)) → q4_get lv 2 = some (.int (s.1)) → q4_get lv 3 = some (.int (l3)) → q4_run f 68 5 lv [] M 0 0 = some r → ∃ lv M, q4_run F 68 20 lv [] M 0 0 = some r ∧ qa_O M ∧ qa_s M = (qa_wh (fun s => s) (mc_68_81_p5 N l1 l3) n s).2 := by
  intro f
  induction f with
  | zero => intro n _ _ s lv M hM es _ _ _ _ h; cases h
  | succ f ih =>
    intro n hn hF s lv M hM es g0 g1 g2 g3 h
    obtain ⟨n, rfl⟩ : ∃ n1, n = n1 + 1 := ⟨n - 1, by omega⟩
    replace hn : f ≤ n := Nat.le_of_succ_le_succ hn
    have hN := Nat.le_trans (Nat.le_of_succ_le hF) hN
    replace h := qa_iload (n := 2) (q := 6) (qa_d rfl h) rfl g2
    replace h := qa_iload (n := 3) (q := 7) (qa_e rfl h) rfl g3
    by_cases c1 : s.1 < l3
    · replace h := qa_iff (q := 10) (qa_e rfl h) rfl (qa_F_ge c1)
      replace h := qa_aload (n := 0) (q := 11) (qa_e rfl h) rfl g0
      replace h := qa_iload (n := 2) (q := 12) (qa_e rfl h) rfl g2
      replace h := qa_iload (n := 1) (q := 13) (qa_e rfl h) rfl g1
      obtain ⟨m2, em2⟩ : ∃ x, x = qa_u s.2 81 s.1.toNatClampNeg l1 := ⟨_, rfl⟩
      obtain ⟨M, h, hM, es⟩ := qa_iastore (jn := s.1.toNatClampNeg) (q := 14) (qa_e rfl h) rfl hM es rfl
      rw [← em2] at es
      obtain ⟨lv, h, g, T⟩ := qa_iinc (n := 2) (z := (1 : Int32)) (q := 17) (qa_e rfl h) rfl (by decide) g2
      replace g0 := T _ _ g0 (by decide) (Or.inr rfl)
      replace g1 := T _ _ g1 (by decide) (Or.inr rfl)
      replace g3 := T _ _ g3 (by decide) (Or.inr rfl)
      replace g2 := g
      clear g T
      replace h := qa_goto (q := 5) (qa_e rfl h) rfl
      have e0 : mc_68_81_p5 N l1 l3 s = .inl ((s.1 + (1 : Int32)), m2) := by exact Eq.trans (if_pos c1) (Eq.trans (qa_ie em2) (rfl))
      rw [qa_whl e0]
      exact ih n hn (Nat.le_of_succ_le hF) ((s.1 + (1 : Int32)), m2) _ _ hM es g0 g1 g2 g3 h
    · replace h := qa_ift (q := 20) (qa_e rfl h) rfl (qa_T_ge c1)
      have e0 : mc_68_81_p5 N l1 l3 s = .inr (s.1, s.2) := by exact Eq.trans (if_neg c1) (rfl)
      rw [qa_whr e0]
      exact ⟨_, _, q61_mono f F _ _ _ _ _ _ _ _ (Nat.le_of_succ_le hF) h, hM, es⟩
/-- java/util/Arrays, fill, ([II)V -/
noncomputable def ma_68_81 (N : Nat) (a1 : Int32) (σ : qa_S) : qa_S :=
  qa_in ((qa_wh (fun s => s) (mc_68_81_p5 N a1 (4 : Int32)) N ((0 : Int32), σ))) fun r1 =>
  r1.2
theorem mb_68_81 {f N : Nat} (hN : f ≤ N) {M : q4_M} {r : Option Value × q4_M} {σ : qa_S} {a1 : Int32} (hM : qa_O M) (es : qa_s M = σ) (h : q4_run f 68 0 (lv_args 0 [.ref 81, .int (a1)]) [] M 0 0 = some r) : r.1 = none ∧ qa_O r.2 ∧ qa_s r.2 = (ma_68_81 N a1 σ) := by
  obtain ⟨lv, el⟩ : ∃ l, l = lv_args 0 [.ref 81, .int (a1)] := ⟨_, rfl⟩
  have g0 : q4_get lv 0 = some (.ref 81) := by rw [el]; rfl
  have g1 : q4_get lv 1 = some (.int (a1)) := by rw [el]; rfl
  rw [← el] at h
  clear el
  replace h := qa_push (z := (0 : Int32)) (q := 1) (qa_e rfl h) rfl (by decide)
  obtain ⟨lv, h, g, T⟩ := qa_istore (n := 2) (q := 2) (qa_e rfl h) rfl
  replace g0 := T _ _ g0 (by decide) (Or.inr rfl)
  replace g1 := T _ _ g1 (by decide) (Or.inr rfl)
  have g2 := g
  clear g T
  replace h := qa_aload (n := 0) (q := 3) (qa_e rfl h) rfl g0
  replace h := qa_alen (z := (4 : Int32)) (q := 4) (qa_e rfl h) rfl hM (by decide) (by decide)
  obtain ⟨lv, h, g, T⟩ := qa_istore (n := 3) (q := 5) (qa_e rfl h) rfl
  replace g0 := T _ _ g0 (by decide) (Or.inr rfl)
  replace g1 := T _ _ g1 (by decide) (Or.inr rfl)
  replace g2 := T _ _ g2 (by decide) (Or.inr rfl)
  have g3 := g
  clear g T
  obtain ⟨r1, er1⟩ : ∃ x, x = (qa_wh (fun s => s) (mc_68_81_p5 N a1 (4 : Int32)) N ((0 : Int32), σ)) := ⟨_, rfl⟩
  have L := md_68_81_p5 (l1 := a1) (l3 := (4 : Int32)) (F := f) (N := N) (r := r) hN f N hN (Nat.le_refl f) ((0 : Int32), σ) _ _ hM es g0 g1 g2 g3 h
  rw [← er1] at L
  obtain ⟨lv, M, h, hM, es⟩ := L
  have er := qa_rv (qa_e rfl h)
  subst er
  have e0 : ma_68_81 N a1 σ = r1.2 := by exact Eq.trans (qa_ie er1) (rfl)
  rw [e0]
  exact ⟨rfl, hM, es⟩
noncomputable def mc_68_82_p5 (N : Nat) (l1 : Int32) (l3 : Int32) (s : Int32 × qa_S) : (Int32 × qa_S) ⊕ (Int32 × qa_S) :=
  if s.1 < l3 then
    qa_in (qa_u s.2 82 s.1.toNatClampNeg l1) fun m2 =>
    .inl ((s.1 + (1 : Int32)), m2)
  else
    .inr (s.1, s.2)
theorem md_68_82_p5 {N F : Nat} {r : Option Value × q4_M} {l1 : Int32} {l3 : Int32} (hN : F ≤ N) : ∀ f n, f ≤ n → f ≤ F → ∀ (s : Int32 × qa_S) (lv : List (Nat × Value)) (M : q4_M), qa_O M → qa_s M = s.2 → q4_get lv 0 = some (.ref 82) → q4_get lv 1 = some (.int (l1)) → q4_get lv 2 = some (.int (s.1)) → q4_get lv 3 = some (.int (l3)) → q4_run f 68 5 lv [] M 0 0 = some r → ∃ lv M, q4_run F 68 20 lv [] M 0 0 = some r ∧ qa_O M ∧ qa_s M = (qa_wh (fun s => s) (mc_68_82_p5 N l1 l3) n s).2 := by
  intro f
  induction f with
  | zero => intro n _ _ s lv M hM es _ _ _ _ h; cases h
  | succ f ih =>
    intro n hn hF s lv M hM es g0 g1 g2 g3 h
    obtain ⟨n, rfl⟩ : ∃ n1, n = n1 + 1 := ⟨n - 1, by omega⟩
    replace hn : f ≤ n := Nat.le_of_succ_le_succ hn
    have hN := Nat.le_trans (Nat.le_of_succ_le hF) hN
    replace h := qa_iload (n := 2) (q := 6) (qa_d rfl h) rfl g2
    replace h := qa_iload (n := 3) (q := 7) (qa_e rfl h) rfl g3
    by_cases c1 : s.1 < l3
    · replace h := qa_iff (q := 10) (qa_e rfl h) rfl (qa_F_ge c1)
      replace h := qa_aload (n := 0) (q := 11) (qa_e rfl h) rfl g0
      replace h := qa_iload (n := 2) (q := 12) (qa_e rfl h) rfl g2
      replace h := qa_iload (n := 1) (q := 13) (qa_e rfl h) rfl g1
      obtain ⟨m2, em2⟩ : ∃ x, x = qa_u s.2 82 s.1.toNatClampNeg l1 := ⟨_, rfl⟩
      obtain ⟨M, h, hM, es⟩ := qa_iastore (jn := s.1.toNatClampNeg) (q := 14) (qa_e rfl h) rfl hM es rfl
      rw [← em2] at es
      obtain ⟨lv, h, g, T⟩ := qa_iinc (n := 2) (z := (1 : Int32)) (q := 17) (qa_e rfl h) rfl (by decide) g2
      replace g0 := T _ _ g0 (by decide) (Or.inr rfl)
      replace g1 := T _ _ g1 (by decide) (Or.inr rfl)
      replace g3 := T _ _ g3 (by decide) (Or.inr rfl)
      replace g2 := g
      clear g T
      replace h := qa_goto (q := 5) (qa_e rfl h) rfl
      have e0 : mc_68_82_p5 N l1 l3 s = .inl ((s.1 + (1 : Int32)), m2) := by exact Eq.trans (if_pos c1) (Eq.trans (qa_ie em2) (rfl))
      rw [qa_whl e0]
      exact ih n hn (Nat.le_of_succ_le hF) ((s.1 + (1 : Int32)), m2) _ _ hM es g0 g1 g2 g3 h
    · replace h := qa_ift (q := 20) (qa_e rfl h) rfl (qa_T_ge c1)
      have e0 : mc_68_82_p5 N l1 l3 s = .inr (s.1, s.2) := by exact Eq.trans (if_neg c1) (rfl)
      rw [qa_whr e0]
      exact ⟨_, _, q61_mono f F _ _ _ _ _ _ _ _ (Nat.le_of_succ_le hF) h, hM, es⟩
