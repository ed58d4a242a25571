noncomputable def mc_224_99_p130 (N : Nat) (l1 : Int32) (σ : qa_S) (s : Int32 × Int32 × Int32) : (Int32 × Int32 × Int32) ⊕ (Int32 × Int32 × Int32) :=
  if s.1 < (σ 99 5) then
    qa_in ((qa_wh (fun s => s) (mc_224_99_p142 N l1 s.1 σ) N ((0 : Int32), s.2.1, s.2.2))) fun r2 =>
    .inl ((s.1 + (1 : Int32)), r2.2.1, r2.2.2)
  else
    .inr (s.1, s.2.1, s.2.2)
theorem md_224_99_p130 {N F : Nat} {r : Option Value × q4_M} {l1 : Int32} {σ : qa_S} (hN : F ≤ N) : ∀ f n, f ≤ n → f ≤ F → ∀ (s : Int32 × Int32 × Int32) (lv : List (Nat × Value)) (M : q4_M), qa_O M → qa_s M = σ → q4_get lv 0 = some (.ref 99) → q4_get lv 1 = some (.int (l1)) → q4_get lv 3 = some (.int (s.2.1)) → q4_get lv 4 = some (.int (s.2.2)) → q4_get lv 5 = some (.int (s.1)) → q4_run f 224 130 lv [] M 0 0 = some r → ∃ lv M, q4_run F 224 245 lv [] M 0 0 = some r ∧ qa_O M ∧ qa_s M = σ ∧ q4_get lv 1 = some (.int (l1)) ∧ q4_get lv 3 = some (.int ((qa_wh (fun s => s) (mc_224_99_p130 N l1 σ) n s).2.1)) ∧ q4_get lv 4 = some (.int ((qa_wh (fun s => s) (mc_224_99_p130 N l1 σ) n s).2.2)) := by
  intro f
  induction f with
  | zero => intro n _ _ s lv M hM es _ _ _ _ _ h; cases h
  | succ f ih =>
    intro n hn hF s lv M hM es g0 g1 g3 g4 g5 h
    obtain ⟨n, rfl⟩ : ∃ n1, n = n1 + 1 := ⟨n - 1, by omega⟩
    replace hn : f ≤ n := Nat.le_of_succ_le_succ hn
    have hN := Nat.le_trans (Nat.le_of_succ_le hF) hN
    replace h := qa_iload (n := 5) (q := 132) (qa_d rfl h) rfl g5
    replace h := qa_aload (n := 0) (q := 133) (qa_e rfl h) rfl g0
    replace h := qa_gi (j := 5) (q := 136) (qa_e rfl h) rfl hM es rfl (by decide)
    by_cases c1 : s.1 < (σ 99 5)
    · replace h := qa_iff (q := 139) (qa_e rfl h) rfl (qa_F_ge c1)
      replace h := qa_push (z := (0 : Int32)) (q := 140) (qa_e rfl h) rfl (by decide)
      obtain ⟨lv, h, g, T⟩ := qa_istore (n := 6) (q := 142) (qa_e rfl h) rfl
      replace g0 := T _ _ g0 (by decide) (Or.inr rfl)
      replace g1 := T _ _ g1 (by decide) (Or.inr rfl)
      replace g3 := T _ _ g3 (by decide) (Or.inr rfl)
      replace g4 := T _ _ g4 (by decide) (Or.inr rfl)
      replace g5 := T _ _ g5 (by decide) (Or.inr rfl)
      have g6 := g
      clear g T
      obtain ⟨r2, er2⟩ : ∃ x, x = (qa_wh (fun s => s) (mc_224_99_p142 N l1 s.1 σ) N ((0 : Int32), s.2.1, s.2.2)) := ⟨_, rfl⟩
      have L := md_224_99_p142 (l1 := l1) (l5 := s.1) (σ := σ) (F := f) (N := N) (r := r) hN f N hN (Nat.le_refl f) ((0 : Int32), s.2.1, s.2.2) _ _ hM es g0 g1 g3 g4 g5 g6 h
      rw [← er2] at L
      obtain ⟨lv, M, h, hM, es, g0, g1, g3, g4, g5⟩ := L
      obtain ⟨lv, h, g, T⟩ := qa_iinc (n := 5) (z := (1 : Int32)) (q := 242) (qa_e rfl h) rfl (by decide) g5
      replace g0 := T _ _ g0 (by decide) (Or.inr rfl)
      replace g1 := T _ _ g1 (by decide) (Or.inr rfl)
      replace g3 := T _ _ g3 (by decide) (Or.inr rfl)
      replace g4 := T _ _ g4 (by decide) (Or.inr rfl)
      replace g5 := g
      clear g T
      replace h := qa_goto (q := 130) (qa_e rfl h) rfl
      have e0 : mc_224_99_p130 N l1 σ s = .inl ((s.1 + (1 : Int32)), r2.2.1, r2.2.2) := by exact Eq.trans (if_pos c1) (Eq.trans (qa_ie er2) (rfl))
      rw [qa_whl e0]
      exact ih n hn (Nat.le_of_succ_le hF) ((s.1 + (1 : Int32)), r2.2.1, r2.2.2) _ _ hM es g0 g1 g3 g4 g5 h
    · replace h := qa_ift (q := 245) (qa_e rfl h) rfl (qa_T_ge c1)
      have e0 : mc_224_99_p130 N l1 σ s = .inr (s.1, s.2.1, s.2.2) := by exact Eq.trans (if_neg c1) (rfl)
      rw [qa_whr e0]
      exact ⟨_, _, q61_mono f F _ _ _ _ _ _ _ _ (Nat.le_of_succ_le hF) h, hM, es, g1, g3, g4⟩
/-- BuriedBySevensModel, two, (I)I -/
noncomputable def ma_224_99 (N : Nat) (a1 : Int32) (σ : qa_S) : Int32 × qa_S :=
  qa_in (qa_u σ 99 9 (0 : Int32)) fun m1 =>
  qa_in ((qa_wh (fun s => s) (mc_224_99_p40 N a1 m1) N ((0 : Int32), (if (ma_158 (a1).toInt64 (0 : Int64) (1 : Int64)) = (0 : Int32) then (-2 : Int32) else (if (m1 99 35) = (m1 99 0) then (0 : Int32) else (-3 : Int32)))))) fun r4 =>
  if r4.2 < (0 : Int32) then
    qa_in ((ma_152_99 r4.2 m1)) fun r6 =>
    (r6.1, r6.2)
  else
    qa_in ((ma_180_99 N m1)) fun m7 =>
    qa_in ((qa_wh (fun s => s) (mc_224_99_p92 N a1) N ((0 : Int32), m7))) fun r8 =>
    qa_in ((ma_183_99 N r8.2)) fun m9 =>
    qa_in ((qa_wh (fun s => s) (mc_224_99_p130 N a1 m9) N ((0 : Int32), (0 : Int32), (0 : Int32)))) fun r10 =>
    ((if a1 = (0 : Int32) then r10.2.1 else r10.2.2), m9)
theorem mb_224_99 {f N : Nat} (hN : f ≤ N) {M : q4_M} {r : Option Value × q4_M} {σ : qa_S} {a1 : Int32} (hM : qa_O M) (es : qa_s M = σ) (h : q4_run f 224 0 (lv_args 0 [.ref 99, .int (a1)]) [] M 0 0 = some r) : r.1 = some (.int ((ma_224_99 N a1 σ).1)) ∧ qa_O r.2 ∧ qa_s r.2 = (ma_224_99 N a1 σ).2 := by
  obtain ⟨lv, el⟩ : ∃ l, l = lv_args 0 [.ref 99, .int (a1)] := ⟨_, rfl⟩
  have g0 : q4_get lv 0 = some (.ref 99) := by rw [el]; rfl
  have g1 : q4_get lv 1 = some (.int (a1)) := by rw [el]; rfl
  rw [← el] at h
  clear el
  replace h := qa_aload (n := 0) (q := 1) (qa_e rfl h) rfl g0
  replace h := qa_push (z := (0 : Int32)) (q := 2) (qa_e rfl h) rfl (by decide)
  obtain ⟨m1, em1⟩ : ∃ x, x = qa_u σ 99 9 (0 : Int32) := ⟨_, rfl⟩
  obtain ⟨M, h, hM, es⟩ := qa_pf (j := 9) (q := 5) (qa_e rfl h) rfl hM es rfl (by decide)
  rw [← em1] at es
  replace h := qa_iload (n := 1) (q := 6) (qa_e rfl h) rfl g1
  replace h := qa_i2l (q := 7) (qa_e rfl h) rfl
  replace h := qa_lpush (z := (0 : Int64)) (q := 8) (qa_e rfl h) rfl (by decide)
  replace h := qa_lpush (z := (1 : Int64)) (q := 9) (qa_e rfl h) rfl (by decide)
  obtain ⟨M, h, hM, es⟩ := qa_c1 (y := 158) (as := [.long ((a1).toInt64), .long ((0 : Int64)), .long ((1 : Int64))]) (rest := []) (i := .invokestatic 158) (q := 12) (qa_e rfl h) (Or.inr rfl) rfl rfl (by decide) rfl (fun r hc => mb_158 hM es hc)
  obtain ⟨lv, M, h, hM, es, g0, g1⟩ : ∃ lv M, q4_run f 224 37 lv [.int ((if (ma_158 (a1).toInt64 (0 : Int64) (1 : Int64)) = (0 : Int32) then (-2 : Int32) else (if (m1 99 35) = (m1 99 0) then (0 : Int32) else (-3 : Int32))))] M 0 0 = some r ∧ qa_O M ∧ qa_s M = m1 ∧ q4_get lv 0 = some (.ref 99) ∧ q4_get lv 1 = some (.int (a1)) := by
    by_cases c2 : (ma_158 (a1).toInt64 (0 : Int64) (1 : Int64)) = (0 : Int32)
    · replace h := qa_icf (q := 15) (qa_e rfl h) rfl (qa_F_ne c2)
      replace h := qa_push (z := (-2 : Int32)) (q := 17) (qa_e rfl h) rfl (by decide)
      replace h := qa_goto (q := 37) (qa_e rfl h) rfl
      exact ⟨lv, M, (qa_hi1 c2 h), hM, es, g0, g1⟩
    · replace h := qa_ict (q := 20) (qa_e rfl h) rfl (qa_T_ne c2)
      replace h := qa_aload (n := 0) (q := 21) (qa_e rfl h) rfl g0
      replace h := qa_gi (j := 35) (q := 24) (qa_e rfl h) rfl hM es rfl (by decide)
      replace h := qa_aload (n := 0) (q := 25) (qa_e rfl h) rfl g0
      replace h := qa_gi (j := 0) (q := 28) (qa_e rfl h) rfl hM es rfl (by decide)
      obtain ⟨lv, M, h, hM, es, g0, g1⟩ : ∃ lv M, q4_run f 224 37 lv [.int ((if (m1 99 35) = (m1 99 0) then (0 : Int32) else (-3 : Int32)))] M 0 0 = some r ∧ qa_O M ∧ qa_s M = m1 ∧ q4_get lv 0 = some (.ref 99) ∧ q4_get lv 1 = some (.int (a1)) := by
        by_cases c3 : (m1 99 35) = (m1 99 0)
        · replace h := qa_ift (q := 36) (qa_e rfl h) rfl (qa_T_eq c3)
          replace h := qa_push (z := (0 : Int32)) (q := 37) (qa_e rfl h) rfl (by decide)
          exact ⟨lv, M, (qa_hi1 c3 h), hM, es, g0, g1⟩
        · replace h := qa_iff (q := 31) (qa_e rfl h) rfl (qa_F_eq c3)
          replace h := qa_push (z := (-3 : Int32)) (q := 33) (qa_e rfl h) rfl (by decide)
          replace h := qa_goto (q := 37) (qa_e rfl h) rfl
          exact ⟨lv, M, (qa_hi0 c3 h), hM, es, g0, g1⟩
      exact ⟨lv, M, (qa_hi0 c2 h), hM, es, g0, g1⟩
  obtain ⟨lv, h, g, T⟩ := qa_istore (n := 2) (q := 38) (qa_e rfl h) rfl
  replace g0 := T _ _ g0 (by decide) (Or.inr rfl)
  replace g1 := T _ _ g1 (by decide) (Or.inr rfl)
  have g2 := g
  clear g T
  replace h := qa_push (z := (0 : Int32)) (q := 39) (qa_e rfl h) rfl (by decide)
  obtain ⟨lv, h, g, T⟩ := qa_istore (n := 3) (q := 40) (qa_e rfl h) rfl
  replace g0 := T _ _ g0 (by decide) (Or.inr rfl)
  replace g1 := T _ _ g1 (by decide) (Or.inr rfl)
  replace g2 := T _ _ g2 (by decide) (Or.inr rfl)
  have g3 := g
  clear g T
  obtain ⟨r4, er4⟩ : ∃ x, x = (qa_wh (fun s => s) (mc_224_99_p40 N a1 m1) N ((0 : Int32), (if (ma_158 (a1).toInt64 (0 : Int64) (1 : Int64)) = (0 : Int32) then (-2 : Int32) else (if (m1 99 35) = (m1 99 0) then (0 : Int32) else (-3 : Int32))))) := ⟨_, rfl⟩
  have L := md_224_99_p40 (l1 := a1) (σ := m1) (F := f) (N := N) (r := r) hN f N hN (Nat.le_refl f) ((0 : Int32), (if (ma_158 (a1).toInt64 (0 : Int64) (1 : Int64)) = (0 : Int32) then (-2 : Int32) else (if (m1 99 35) = (m1 99 0) then (0 : Int32) else (-3 : Int32)))) _ _ hM es g0 g1 g2 g3 h
  rw [← er4] at L
  obtain ⟨lv, M, h, hM, es, g0, g1, g2⟩ := L
  replace h := qa_iload (n := 2) (q := 77) (qa_e rfl h) rfl g2
  by_cases c5 : r4.2 < (0 : Int32)
  · replace h := qa_icf (q := 80) (qa_e rfl h) rfl (qa_F_ge c5)
    replace h := qa_aload (n := 0) (q := 81) (qa_e rfl h) rfl g0
    replace h := qa_iload (n := 2) (q := 82) (qa_e rfl h) rfl g2
    obtain ⟨r6, er6⟩ : ∃ x, x = (ma_152_99 r4.2 m1) := ⟨_, rfl⟩
    obtain ⟨M, h, hM, es⟩ := qa_c1 (y := 152) (as := [.ref 99, .int (r4.2)]) (rest := []) (i := .invokevirtual 152) (q := 85) (qa_e rfl h) (Or.inl rfl) rfl rfl (by decide) rfl (fun r hc => mb_152_99 hM es hc)
    rw [← er6] at h es
    have er := qa_ri (qa_e rfl h)
    subst er
    have e0 : ma_224_99 N a1 σ = (r6.1, r6.2) := by exact Eq.trans (qa_ie em1) (Eq.trans (qa_ie er4) (Eq.trans (if_pos c5) (Eq.trans (qa_ie er6) (rfl))))
    rw [e0]
    exact ⟨rfl, hM, es⟩
  · replace h := qa_ict (q := 86) (qa_e rfl h) rfl (qa_T_ge c5)
    replace h := qa_aload (n := 0) (q := 87) (qa_e rfl h) rfl g0
    obtain ⟨m7, em7⟩ : ∃ x, x = (ma_180_99 N m1) := ⟨_, rfl⟩
    obtain ⟨M, h, hM, es⟩ := qa_c0 (y := 180) (as := [.ref 99]) (rest := []) (i := .invokevirtual 180) (q := 90) (qa_e rfl h) (Or.inl rfl) rfl rfl (by decide) rfl (fun r hc => mb_180_99 hN hM es hc)
    rw [← em7] at es
    replace h := qa_push (z := (0 : Int32)) (q := 91) (qa_e rfl h) rfl (by decide)
    obtain ⟨lv, h, g, T⟩ := qa_istore (n := 3) (q := 92) (qa_e rfl h) rfl
    replace g0 := T _ _ g0 (by decide) (Or.inr rfl)
    replace g1 := T _ _ g1 (by decide) (Or.inr rfl)
    have g3 := g
    clear g T
    obtain ⟨r8, er8⟩ : ∃ x, x = (qa_wh (fun s => s) (mc_224_99_p92 N a1) N ((0 : Int32), m7)) := ⟨_, rfl⟩
    have L := md_224_99_p92 (l1 := a1) (F := f) (N := N) (r := r) hN f N hN (Nat.le_refl f) ((0 : Int32), m7) _ _ hM es g0 g1 g3 h
    rw [← er8] at L
    obtain ⟨lv, M, h, hM, es, g0, g1⟩ := L
    replace h := qa_aload (n := 0) (q := 119) (qa_e rfl h) rfl g0
    obtain ⟨m9, em9⟩ : ∃ x, x = (ma_183_99 N r8.2) := ⟨_, rfl⟩
    obtain ⟨M, h, hM, es⟩ := qa_c0 (y := 183) (as := [.ref 99]) (rest := []) (i := .invokevirtual 183) (q := 122) (qa_e rfl h) (Or.inl rfl) rfl rfl (by decide) rfl (fun r hc => mb_183_99 hN hM es hc)
    rw [← em9] at es
    replace h := qa_push (z := (0 : Int32)) (q := 123) (qa_e rfl h) rfl (by decide)
    obtain ⟨lv, h, g, T⟩ := qa_istore (n := 3) (q := 124) (qa_e rfl h) rfl
    replace g0 := T _ _ g0 (by decide) (Or.inr rfl)
    replace g1 := T _ _ g1 (by decide) (Or.inr rfl)
    have g3 := g
    clear g T
    replace h := qa_push (z := (0 : Int32)) (q := 125) (qa_e rfl h) rfl (by decide)
    obtain ⟨lv, h, g, T⟩ := qa_istore (n := 4) (q := 127) (qa_e rfl h) rfl
    replace g0 := T _ _ g0 (by decide) (Or.inr rfl)
    replace g1 := T _ _ g1 (by decide) (Or.inr rfl)
    replace g3 := T _ _ g3 (by decide) (Or.inr rfl)
    have g4 := g
    clear g T
    replace h := qa_push (z := (0 : Int32)) (q := 128) (qa_e rfl h) rfl (by decide)
    obtain ⟨lv, h, g, T⟩ := qa_istore (n := 5) (q := 130) (qa_e rfl h) rfl
    replace g0 := T _ _ g0 (by decide) (Or.inr rfl)
    replace g1 := T _ _ g1 (by decide) (Or.inr rfl)
    replace g3 := T _ _ g3 (by decide) (Or.inr rfl)
    replace g4 := T _ _ g4 (by decide) (Or.inr rfl)
    have g5 := g
    clear g T
    obtain ⟨r10, er10⟩ : ∃ x, x = (qa_wh (fun s => s) (mc_224_99_p130 N a1 m9) N ((0 : Int32), (0 : Int32), (0 : Int32))) := ⟨_, rfl⟩
    have L := md_224_99_p130 (l1 := a1) (σ := m9) (F := f) (N := N) (r := r) hN f N hN (Nat.le_refl f) ((0 : Int32), (0 : Int32), (0 : Int32)) _ _ hM es g0 g1 g3 g4 g5 h
    rw [← er10] at L
    obtain ⟨lv, M, h, hM, es, g1, g3, g4⟩ := L
    replace h := qa_iload (n := 1) (q := 246) (qa_e rfl h) rfl g1
    obtain ⟨lv, M, h, hM, es⟩ : ∃ lv M, q4_run f 224 255 lv [.int ((if a1 = (0 : Int32) then r10.2.1 else r10.2.2))] M 0 0 = some r ∧ qa_O M ∧ qa_s M = m9 := by
      by_cases c11 : a1 = (0 : Int32)
      · replace h := qa_icf (q := 249) (qa_e rfl h) rfl (qa_F_ne c11)
        replace h := qa_iload (n := 3) (q := 250) (qa_e rfl h) rfl g3
        replace h := qa_goto (q := 255) (qa_e rfl h) rfl
        exact ⟨lv, M, (qa_hi1 c11 h), hM, es⟩
      · replace h := qa_ict (q := 253) (qa_e rfl h) rfl (qa_T_ne c11)
        replace h := qa_iload (n := 4) (q := 255) (qa_e rfl h) rfl g4
        exact ⟨lv, M, (qa_hi0 c11 h), hM, es⟩
    have er := qa_ri (qa_e rfl h)
    subst er
    have e0 : ma_224_99 N a1 σ = ((if a1 = (0 : Int32) then r10.2.1 else r10.2.2), m9) := by exact Eq.trans (qa_ie em1) (Eq.trans (qa_ie er4) (Eq.trans (if_neg c5) (Eq.trans (qa_ie em7) (Eq.trans (qa_ie er8) (Eq.trans (qa_ie em9) (Eq.trans (qa_ie er10) (rfl)))))))
    rw [e0]
    exact ⟨rfl, hM, es⟩
noncomputable def mc_225_99_p72 (N : Nat) (l1 : Int32) (l2 : Int32) (σ : qa_S) (s : Int32 × Int32 × Int32) : (Int32 × Int32 × Int32) ⊕ (Int32 × Int32 × Int32) :=
  if s.1 < (0 : Int32) then
    .inr (s.1, s.2.1, s.2.2)
  else
    .inl ((s.1 + (-1 : Int32)), (if (ma_185 (σ 104 l1.toNatClampNeg) s.1) = (0 : Int32) then s.2.1 else (if (ma_186_99 l1 (σ 109 s.1.toNatClampNeg) σ) = (σ 122 s.1.toNatClampNeg) then s.2.1 else s.1)), (if (ma_185 (σ 104 l1.toNatClampNeg) s.1) = (0 : Int32) then (if (σ 122 s.1.toNatClampNeg) = (0 : Int32) then s.2.2 else s.1) else s.2.2))
theorem md_225_99_p72 {N F : Nat} {r : Option Value × q4_M} {l1 : Int32} {l2 : Int32} {σ : qa_S} (hN : F ≤ N) : ∀ f n, f ≤ n → f ≤ F → ∀ (s : Int32 × Int32 × Int32) (lv : List (Nat × Value)) (M : q4_M), qa_O M → qa_s M = σ → q4_get lv 0 = some (.ref 99) → q4_get lv 1 = some (.int (l1)) → q4_get lv 2 = some (.int (l2)) → q4_get lv 4 = some (.int (s.2.1)) → q4_get lv 5 = some (.int (s.2.2)) → q4_get lv 6 = some (.int (s.1)) → q4_run f 225 72 lv [] M 0 0 = some r → ∃ lv M, q4_run F 225 156 lv [] M 0 0 = some r ∧ qa_O M ∧ qa_s M = σ ∧ q4_get lv 2 = some (.int (l2)) ∧ q4_get lv 4 = some (.int ((qa_wh (fun s => s) (mc_225_99_p72 N l1 l2 σ) n s).2.1)) ∧ q4_get lv 5 = some (.int ((qa_wh (fun s => s) (mc_225_99_p72 N l1 l2 σ) n s).2.2)) := by
  intro f
  induction f with
  | zero => intro n _ _ s lv M hM es _ _ _ _ _ _ h; cases h
  | succ f ih =>
    intro n hn hF s lv M hM es g0 g1 g2 g4 g5 g6 h
    obtain ⟨n, rfl⟩ : ∃ n1, n = n1 + 1 := ⟨n - 1, by omega⟩
    replace hn : f ≤ n := Nat.le_of_succ_le_succ hn
    have hN := Nat.le_trans (Nat.le_of_succ_le hF) hN
    replace h := qa_iload (n := 6) (q := 74) (qa_d rfl h) rfl g6
    by_cases c1 : s.1 < (0 : Int32)
    · replace h := qa_ict (q := 156) (qa_e rfl h) rfl (qa_T_lt c1)
      have e0 : mc_225_99_p72 N l1 l2 σ s = .inr (s.1, s.2.1, s.2.2) := by exact Eq.trans (if_pos c1) (rfl)
      rw [qa_whr e0]
      exact ⟨_, _, q61_mono f F _ _ _ _ _ _ _ _ (Nat.le_of_succ_le hF) h, hM, es, g2, g4, g5⟩
    · replace h := qa_icf (q := 77) (qa_e rfl h) rfl (qa_F_lt c1)
      replace h := qa_aload (n := 0) (q := 78) (qa_e rfl h) rfl g0
      replace h := qa_gr (b := 104) (j := 6) (q := 81) (qa_e rfl h) rfl hM rfl (by decide)
      replace h := qa_iload (n := 1) (q := 82) (qa_e rfl h) rfl g1
      replace h := qa_iaload (jn := l1.toNatClampNeg) (q := 83) (qa_e rfl h) rfl hM es rfl
      replace h := qa_iload (n := 6) (q := 85) (qa_e rfl h) rfl g6
      obtain ⟨M, h, hM, es⟩ := qa_c1 (y := 185) (as := [.int ((σ 104 l1.toNatClampNeg)), .int (s.1)]) (rest := []) (i := .invokestatic 185) (q := 88) (qa_e rfl h) (Or.inr rfl) rfl rfl (by decide) rfl (fun r hc => mb_185 hM es hc)
      obtain ⟨lv, h, g, T⟩ := qa_istore (n := 7) (q := 90) (qa_e rfl h) rfl
      replace g0 := T _ _ g0 (by decide) (Or.inr rfl)
      replace g1 := T _ _ g1 (by decide) (Or.inr rfl)
      replace g2 := T _ _ g2 (by decide) (Or.inr rfl)
      replace g4 := T _ _ g4 (by decide) (Or.inr rfl)
      replace g5 := T _ _ g5 (by decide) (Or.inr rfl)
      replace g6 := T _ _ g6 (by decide) (Or.inr rfl)
      have g7 := g
      clear g T
      replace h := qa_iload (n := 7) (q := 92) (qa_e rfl h) rfl g7
      obtain ⟨lv, M, h, hM, es, g0, g1, g2, g5, g6, g7⟩ : ∃ lv M, q4_run f 225 124 lv [.int ((if (ma_185 (σ 104 l1.toNatClampNeg) s.1) = (0 : Int32) then s.2.1 else (if (ma_186_99 l1 (σ 109 s.1.toNatClampNeg) σ) = (σ 122 s.1.toNatClampNeg) then s.2.1 else s.1)))] M 0 0 = some r ∧ qa_O M ∧ qa_s M = σ ∧ q4_get lv 0 = some (.ref 99) ∧ q4_get lv 1 = some (.int (l1)) ∧ q4_get lv 2 = some (.int (l2)) ∧ q4_get lv 5 = some (.int (s.2.2)) ∧ q4_get lv 6 = some (.int (s.1)) ∧ q4_get lv 7 = some (.int ((ma_185 (σ 104 l1.toNatClampNeg) s.1))) := by
        by_cases c2 : (ma_185 (σ 104 l1.toNatClampNeg) s.1) = (0 : Int32)
        · replace h := qa_ict (q := 122) (qa_e rfl h) rfl (qa_T_eq c2)
          replace h := qa_iload (n := 4) (q := 124) (qa_e rfl h) rfl g4
          exact ⟨lv, M, (qa_hi1 c2 h), hM, es, g0, g1, g2, g5, g6, g7⟩
        · replace h := qa_icf (q := 95) (qa_e rfl h) rfl (qa_F_eq c2)
          replace h := qa_aload (n := 0) (q := 96) (qa_e rfl h) rfl g0
          replace h := qa_iload (n := 1) (q := 97) (qa_e rfl h) rfl g1
          replace h := qa_aload (n := 0) (q := 98) (qa_e rfl h) rfl g0
          replace h := qa_gr (b := 109) (j := 12) (q := 101) (qa_e rfl h) rfl hM rfl (by decide)
          replace h := qa_iload (n := 6) (q := 103) (qa_e rfl h) rfl g6
          replace h := qa_iaload (jn := s.1.toNatClampNeg) (q := 104) (qa_e rfl h) rfl hM es rfl
          obtain ⟨M, h, hM, es⟩ := qa_c1 (y := 186) (as := [.ref 99, .int (l1), .int ((σ 109 s.1.toNatClampNeg))]) (rest := []) (i := .invokevirtual 186) (q := 107) (qa_e rfl h) (Or.inl rfl) rfl rfl (by decide) rfl (fun r hc => mb_186_99 hM es hc)
          replace h := qa_aload (n := 0) (q := 108) (qa_e rfl h) rfl g0
          replace h := qa_gr (b := 122) (j := 34) (q := 111) (qa_e rfl h) rfl hM rfl (by decide)
          replace h := qa_iload (n := 6) (q := 113) (qa_e rfl h) rfl g6
          replace h := qa_iaload (jn := s.1.toNatClampNeg) (q := 114) (qa_e rfl h) rfl hM es rfl
          obtain ⟨lv, M, h, hM, es, g0, g1, g2, g5, g6, g7⟩ : ∃ lv M, q4_run f 225 124 lv [.int ((if (ma_186_99 l1 (σ 109 s.1.toNatClampNeg) σ) = (σ 122 s.1.toNatClampNeg) then s.2.1 else s.1))] M 0 0 = some r ∧ qa_O M ∧ qa_s M = σ ∧ q4_get lv 0 = some (.ref 99) ∧ q4_get lv 1 = some (.int (l1)) ∧ q4_get lv 2 = some (.int (l2)) ∧ q4_get lv 5 = some (.int (s.2.2)) ∧ q4_get lv 6 = some (.int (s.1)) ∧ q4_get lv 7 = some (.int ((ma_185 (σ 104 l1.toNatClampNeg) s.1))) := by
            by_cases c3 : (ma_186_99 l1 (σ 109 s.1.toNatClampNeg) σ) = (σ 122 s.1.toNatClampNeg)
            · replace h := qa_ift (q := 122) (qa_e rfl h) rfl (qa_T_eq c3)
              replace h := qa_iload (n := 4) (q := 124) (qa_e rfl h) rfl g4
              exact ⟨lv, M, (qa_hi1 c3 h), hM, es, g0, g1, g2, g5, g6, g7⟩
            · replace h := qa_iff (q := 117) (qa_e rfl h) rfl (qa_F_eq c3)
              replace h := qa_iload (n := 6) (q := 119) (qa_e rfl h) rfl g6
              replace h := qa_goto (q := 124) (qa_e rfl h) rfl
              exact ⟨lv, M, (qa_hi0 c3 h), hM, es, g0, g1, g2, g5, g6, g7⟩
          exact ⟨lv, M, (qa_hi0 c2 h), hM, es, g0, g1, g2, g5, g6, g7⟩
      obtain ⟨lv, h, g, T⟩ := qa_istore (n := 4) (q := 126) (qa_e rfl h) rfl
      replace g0 := T _ _ g0 (by decide) (Or.inr rfl)
      replace g1 := T _ _ g1 (by decide) (Or.inr rfl)
      replace g2 := T _ _ g2 (by decide) (Or.inr rfl)
      replace g5 := T _ _ g5 (by decide) (Or.inr rfl)
      replace g6 := T _ _ g6 (by decide) (Or.inr rfl)
      replace g7 := T _ _ g7 (by decide) (Or.inr rfl)
      have g4 := g
      clear g T
      replace h := qa_iload (n := 7) (q := 128) (qa_e rfl h) rfl g7
      obtain ⟨lv, M, h, hM, es, g0, g1, g2, g4, g6⟩ : ∃ lv M, q4_run f 225 148 lv [.int ((if (ma_185 (σ 104 l1.toNatClampNeg) s.1) = (0 : Int32) then (if (σ 122 s.1.toNatClampNeg) = (0 : Int32) then s.2.2 else s.1) else s.2.2))] M 0 0 = some r ∧ qa_O M ∧ qa_s M = σ ∧ q4_get lv 0 = some (.ref 99) ∧ q4_get lv 1 = some (.int (l1)) ∧ q4_get lv 2 = some (.int (l2)) ∧ q4_get lv 4 = some (.int ((if (ma_185 (σ 104 l1.toNatClampNeg) s.1) = (0 : Int32) then s.2.1 else (if (ma_186_99 l1 (σ 109 s.1.toNatClampNeg) σ) = (σ 122 s.1.toNatClampNeg) then s.2.1 else s.1)))) ∧ q4_get lv 6 = some (.int (s.1)) := by
        by_cases c4 : (ma_185 (σ 104 l1.toNatClampNeg) s.1) = (0 : Int32)
        · replace h := qa_icf (q := 131) (qa_e rfl h) rfl (qa_F_ne c4)
          replace h := qa_aload (n := 0) (q := 132) (qa_e rfl h) rfl g0
          replace h := qa_gr (b := 122) (j := 34) (q := 135) (qa_e rfl h) rfl hM rfl (by decide)
          replace h := qa_iload (n := 6) (q := 137) (qa_e rfl h) rfl g6
          replace h := qa_iaload (jn := s.1.toNatClampNeg) (q := 138) (qa_e rfl h) rfl hM es rfl
          obtain ⟨lv, M, h, hM, es, g0, g1, g2, g4, g6⟩ : ∃ lv M, q4_run f 225 148 lv [.int ((if (σ 122 s.1.toNatClampNeg) = (0 : Int32) then s.2.2 else s.1))] M 0 0 = some r ∧ qa_O M ∧ qa_s M = σ ∧ q4_get lv 0 = some (.ref 99) ∧ q4_get lv 1 = some (.int (l1)) ∧ q4_get lv 2 = some (.int (l2)) ∧ q4_get lv 4 = some (.int ((if (ma_185 (σ 104 l1.toNatClampNeg) s.1) = (0 : Int32) then s.2.1 else (if (ma_186_99 l1 (σ 109 s.1.toNatClampNeg) σ) = (σ 122 s.1.toNatClampNeg) then s.2.1 else s.1)))) ∧ q4_get lv 6 = some (.int (s.1)) := by
            by_cases c5 : (σ 122 s.1.toNatClampNeg) = (0 : Int32)
            · replace h := qa_ict (q := 146) (qa_e rfl h) rfl (qa_T_eq c5)
              replace h := qa_iload (n := 5) (q := 148) (qa_e rfl h) rfl g5
              exact ⟨lv, M, (qa_hi1 c5 h), hM, es, g0, g1, g2, g4, g6⟩
            · replace h := qa_icf (q := 141) (qa_e rfl h) rfl (qa_F_eq c5)
              replace h := qa_iload (n := 6) (q := 143) (qa_e rfl h) rfl g6
              replace h := qa_goto (q := 148) (qa_e rfl h) rfl
              exact ⟨lv, M, (qa_hi0 c5 h), hM, es, g0, g1, g2, g4, g6⟩
          exact ⟨lv, M, (qa_hi1 c4 h), hM, es, g0, g1, g2, g4, g6⟩
        · replace h := qa_ict (q := 146) (qa_e rfl h) rfl (qa_T_ne c4)
          replace h := qa_iload (n := 5) (q := 148) (qa_e rfl h) rfl g5
          exact ⟨lv, M, (qa_hi0 c4 h), hM, es, g0, g1, g2, g4, g6⟩
      obtain ⟨lv, h, g, T⟩ := qa_istore (n := 5) (q := 150) (qa_e rfl h) rfl
      replace g0 := T _ _ g0 (by decide) (Or.inr rfl)
      replace g1 := T _ _ g1 (by decide) (Or.inr rfl)
      replace g2 := T _ _ g2 (by decide) (Or.inr rfl)
      replace g4 := T _ _ g4 (by decide) (Or.inr rfl)
      replace g6 := T _ _ g6 (by decide) (Or.inr rfl)
      have g5 := g
      clear g T
      obtain ⟨lv, h, g, T⟩ := qa_iinc (n := 6) (z := (-1 : Int32)) (q := 153) (qa_e rfl h) rfl (by decide) g6
      replace g0 := T _ _ g0 (by decide) (Or.inr rfl)
      replace g1 := T _ _ g1 (by decide) (Or.inr rfl)
      replace g2 := T _ _ g2 (by decide) (Or.inr rfl)
      replace g4 := T _ _ g4 (by decide) (Or.inr rfl)
      replace g5 := T _ _ g5 (by decide) (Or.inr rfl)
      replace g6 := g
      clear g T
      replace h := qa_goto (q := 72) (qa_e rfl h) rfl
      have e0 : mc_225_99_p72 N l1 l2 σ s = .inl ((s.1 + (-1 : Int32)), (if (ma_185 (σ 104 l1.toNatClampNeg) s.1) = (0 : Int32) then s.2.1 else (if (ma_186_99 l1 (σ 109 s.1.toNatClampNeg) σ) = (σ 122 s.1.toNatClampNeg) then s.2.1 else s.1)), (if (ma_185 (σ 104 l1.toNatClampNeg) s.1) = (0 : Int32) then (if (σ 122 s.1.toNatClampNeg) = (0 : Int32) then s.2.2 else s.1) else s.2.2)) := by exact Eq.trans (if_neg c1) (rfl)
      rw [qa_whl e0]
      exact ih n hn (Nat.le_of_succ_le hF) ((s.1 + (-1 : Int32)), (if (ma_185 (σ 104 l1.toNatClampNeg) s.1) = (0 : Int32) then s.2.1 else (if (ma_186_99 l1 (σ 109 s.1.toNatClampNeg) σ) = (σ 122 s.1.toNatClampNeg) then s.2.1 else s.1)), (if (ma_185 (σ 104 l1.toNatClampNeg) s.1) = (0 : Int32) then (if (σ 122 s.1.toNatClampNeg) = (0 : Int32) then s.2.2 else s.1) else s.2.2)) _ _ hM es g0 g1 g2 g4 g5 g6 h
/-- BuriedBySevensModel, impostor, (II)I -/
noncomputable def ma_225_99 (N : Nat) (a1 : Int32) (a2 : Int32) (σ : qa_S) : Int32 × qa_S :=
  qa_in (qa_u σ 99 9 (0 : Int32)) fun m1 =>
  if (if (ma_171_99 a1 m1) = (0 : Int32) then (-1 : Int32) else (if (ma_158 (a2).toInt64 (0 : Int64) (1 : Int64)) = (0 : Int32) then (-2 : Int32) else (if (m1 99 35) = (4 : Int32) then (0 : Int32) else (-3 : Int32)))) < (0 : Int32) then
    qa_in ((ma_152_99 (if (ma_171_99 a1 m1) = (0 : Int32) then (-1 : Int32) else (if (ma_158 (a2).toInt64 (0 : Int64) (1 : Int64)) = (0 : Int32) then (-2 : Int32) else (if (m1 99 35) = (4 : Int32) then (0 : Int32) else (-3 : Int32)))) m1)) fun r6 =>
    (r6.1, r6.2)
  else
    qa_in ((ma_180_99 N m1)) fun m7 =>
    qa_in ((qa_wh (fun s => s) (mc_225_99_p72 N a1 a2 m7) N ((3 : Int32), (-9 : Int32), (-9 : Int32)))) fun r8 =>
    ((if a2 = (0 : Int32) then r8.2.1 else r8.2.2), m7)
theorem mb_225_99 {f N : Nat} (hN : f ≤ N) {M : q4_M} {r : Option Value × q4_M} {σ : qa_S} {a1 : Int32} {a2 : Int32} (hM : qa_O M) (es : qa_s M = σ) (h : q4_run f 225 0 (lv_args 0 [.ref 99, .int (a1), .int (a2)]) [] M 0 0 = some r) : r.1 = some (.int ((ma_225_99 N a1 a2 σ).1)) ∧ qa_O r.2 ∧ qa_s r.2 = (ma_225_99 N a1 a2 σ).2 := by
  obtain ⟨lv, el⟩ : ∃ l, l = lv_args 0 [.ref 99, .int (a1), .int (a2)] := ⟨_, rfl⟩
  have g0 : q4_get lv 0 = some (.ref 99) := by rw [el]; rfl
  have g1 : q4_get lv 1 = some (.int (a1)) := by rw [el]; rfl
  have g2 : q4_get lv 2 = some (.int (a2)) := by rw [el]; rfl
  rw [← el] at h
  clear el
  replace h := qa_aload (n := 0) (q := 1) (qa_e rfl h) rfl g0
  replace h := qa_push (z := (0 : Int32)) (q := 2) (qa_e rfl h) rfl (by decide)
  obtain ⟨m1, em1⟩ : ∃ x, x = qa_u σ 99 9 (0 : Int32) := ⟨_, rfl⟩
  obtain ⟨M, h, hM, es⟩ := qa_pf (j := 9) (q := 5) (qa_e rfl h) rfl hM es rfl (by decide)
  rw [← em1] at es
  replace h := qa_aload (n := 0) (q := 6) (qa_e rfl h) rfl g0
  replace h := qa_iload (n := 1) (q := 7) (qa_e rfl h) rfl g1
  obtain ⟨M, h, hM, es⟩ := qa_c1 (y := 171) (as := [.ref 99, .int (a1)]) (rest := []) (i := .invokevirtual 171) (q := 10) (qa_e rfl h) (Or.inl rfl) rfl rfl (by decide) rfl (fun r hc => mb_171_99 hM es hc)
  obtain ⟨lv, M, h, hM, es, g0, g1, g2⟩ : ∃ lv M, q4_run f 225 46 lv [.int ((if (ma_171_99 a1 m1) = (0 : Int32) then (-1 : Int32) else (if (ma_158 (a2).toInt64 (0 : Int64) (1 : Int64)) = (0 : Int32) then (-2 : Int32) else (if (m1 99 35) = (4 : Int32) then (0 : Int32) else (-3 : Int32)))))] M 0 0 = some r ∧ qa_O M ∧ qa_s M = m1 ∧ q4_get lv 0 = some (.ref 99) ∧ q4_get lv 1 = some (.int (a1)) ∧ q4_get lv 2 = some (.int (a2)) := by
    by_cases c2 : (ma_171_99 a1 m1) = (0 : Int32)
    · replace h := qa_icf (q := 13) (qa_e rfl h) rfl (qa_F_ne c2)
      replace h := qa_push (z := (-1 : Int32)) (q := 14) (qa_e rfl h) rfl (by decide)
      replace h := qa_goto (q := 46) (qa_e rfl h) rfl
      exact ⟨lv, M, (qa_hi1 c2 h), hM, es, g0, g1, g2⟩
    · replace h := qa_ict (q := 17) (qa_e rfl h) rfl (qa_T_ne c2)
      replace h := qa_iload (n := 2) (q := 18) (qa_e rfl h) rfl g2
      replace h := qa_i2l (q := 19) (qa_e rfl h) rfl
      replace h := qa_lpush (z := (0 : Int64)) (q := 20) (qa_e rfl h) rfl (by decide)
      replace h := qa_lpush (z := (1 : Int64)) (q := 21) (qa_e rfl h) rfl (by decide)
      obtain ⟨M, h, hM, es⟩ := qa_c1 (y := 158) (as := [.long ((a2).toInt64), .long ((0 : Int64)), .long ((1 : Int64))]) (rest := []) (i := .invokestatic 158) (q := 24) (qa_e rfl h) (Or.inr rfl) rfl rfl (by decide) rfl (fun r hc => mb_158 hM es hc)
      obtain ⟨lv, M, h, hM, es, g0, g1, g2⟩ : ∃ lv M, q4_run f 225 46 lv [.int ((if (ma_158 (a2).toInt64 (0 : Int64) (1 : Int64)) = (0 : Int32) then (-2 : Int32) else (if (m1 99 35) = (4 : Int32) then (0 : Int32) else (-3 : Int32))))] M 0 0 = some r ∧ qa_O M ∧ qa_s M = m1 ∧ q4_get lv 0 = some (.ref 99) ∧ q4_get lv 1 = some (.int (a1)) ∧ q4_get lv 2 = some (.int (a2)) := by
        by_cases c3 : (ma_158 (a2).toInt64 (0 : Int64) (1 : Int64)) = (0 : Int32)
        · replace h := qa_icf (q := 27) (qa_e rfl h) rfl (qa_F_ne c3)
          replace h := qa_push (z := (-2 : Int32)) (q := 29) (qa_e rfl h) rfl (by decide)
          replace h := qa_goto (q := 46) (qa_e rfl h) rfl
          exact ⟨lv, M, (qa_hi1 c3 h), hM, es, g0, g1, g2⟩
        · replace h := qa_ict (q := 32) (qa_e rfl h) rfl (qa_T_ne c3)
          replace h := qa_aload (n := 0) (q := 33) (qa_e rfl h) rfl g0
          replace h := qa_gi (j := 35) (q := 36) (qa_e rfl h) rfl hM es rfl (by decide)
          replace h := qa_push (z := (4 : Int32)) (q := 37) (qa_e rfl h) rfl (by decide)
          obtain ⟨lv, M, h, hM, es, g0, g1, g2⟩ : ∃ lv M, q4_run f 225 46 lv [.int ((if (m1 99 35) = (4 : Int32) then (0 : Int32) else (-3 : Int32)))] M 0 0 = some r ∧ qa_O M ∧ qa_s M = m1 ∧ q4_get lv 0 = some (.ref 99) ∧ q4_get lv 1 = some (.int (a1)) ∧ q4_get lv 2 = some (.int (a2)) := by
            by_cases c4 : (m1 99 35) = (4 : Int32)
            · replace h := qa_ift (q := 45) (qa_e rfl h) rfl (qa_T_eq c4)
              replace h := qa_push (z := (0 : Int32)) (q := 46) (qa_e rfl h) rfl (by decide)
              exact ⟨lv, M, (qa_hi1 c4 h), hM, es, g0, g1, g2⟩
            · replace h := qa_iff (q := 40) (qa_e rfl h) rfl (qa_F_eq c4)
              replace h := qa_push (z := (-3 : Int32)) (q := 42) (qa_e rfl h) rfl (by decide)
              replace h := qa_goto (q := 46) (qa_e rfl h) rfl
              exact ⟨lv, M, (qa_hi0 c4 h), hM, es, g0, g1, g2⟩
          exact ⟨lv, M, (qa_hi0 c3 h), hM, es, g0, g1, g2⟩
      exact ⟨lv, M, (qa_hi0 c2 h), hM, es, g0, g1, g2⟩
  obtain ⟨lv, h, g, T⟩ := qa_istore (n := 3) (q := 47) (qa_e rfl h) rfl
  replace g0 := T _ _ g0 (by decide) (Or.inr rfl)
  replace g1 := T _ _ g1 (by decide) (Or.inr rfl)
  replace g2 := T _ _ g2 (by decide) (Or.inr rfl)
  have g3 := g
  clear g T
  replace h := qa_iload (n := 3) (q := 48) (qa_e rfl h) rfl g3
  by_cases c5 : (if (ma_171_99 a1 m1) = (0 : Int32) then (-1 : Int32) else (if (ma_158 (a2).toInt64 (0 : Int64) (1 : Int64)) = (0 : Int32) then (-2 : Int32) else (if (m1 99 35) = (4 : Int32) then (0 : Int32) else (-3 : Int32)))) < (0 : Int32)
  · replace h := qa_icf (q := 51) (qa_e rfl h) rfl (qa_F_ge c5)
    replace h := qa_aload (n := 0) (q := 52) (qa_e rfl h) rfl g0
    replace h := qa_iload (n := 3) (q := 53) (qa_e rfl h) rfl g3
    obtain ⟨r6, er6⟩ : ∃ x, x = (ma_152_99 (if (ma_171_99 a1 m1) = (0 : Int32) then (-1 : Int32) else (if (ma_158 (a2).toInt64 (0 : Int64) (1 : Int64)) = (0 : Int32) then (-2 : Int32) else (if (m1 99 35) = (4 : Int32) then (0 : Int32) else (-3 : Int32)))) m1) := ⟨_, rfl⟩
    obtain ⟨M, h, hM, es⟩ := qa_c1 (y := 152) (as := [.ref 99, .int ((if (ma_171_99 a1 m1) = (0 : Int32) then (-1 : Int32) else (if (ma_158 (a2).toInt64 (0 : Int64) (1 : Int64)) = (0 : Int32) then (-2 : Int32) else (if (m1 99 35) = (4 : Int32) then (0 : Int32) else (-3 : Int32)))))]) (rest := []) (i := .invokevirtual 152) (q := 56) (qa_e rfl h) (Or.inl rfl) rfl rfl (by decide) rfl (fun r hc => mb_152_99 hM es hc)
    rw [← er6] at h es
    have er := qa_ri (qa_e rfl h)
    subst er
    have e0 : ma_225_99 N a1 a2 σ = (r6.1, r6.2) := by exact Eq.trans (qa_ie em1) (Eq.trans (if_pos c5) (Eq.trans (qa_ie er6) (rfl)))
    rw [e0]
    exact ⟨rfl, hM, es⟩
  · replace h := qa_ict (q := 57) (qa_e rfl h) rfl (qa_T_ge c5)
    replace h := qa_aload (n := 0) (q := 58) (qa_e rfl h) rfl g0
    obtain ⟨m7, em7⟩ : ∃ x, x = (ma_180_99 N m1) := ⟨_, rfl⟩
    obtain ⟨M, h, hM, es⟩ := qa_c0 (y := 180) (as := [.ref 99]) (rest := []) (i := .invokevirtual 180) (q := 61) (qa_e rfl h) (Or.inl rfl) rfl rfl (by decide) rfl (fun r hc => mb_180_99 hN hM es hc)
    rw [← em7] at es
    replace h := qa_push (z := (-9 : Int32)) (q := 63) (qa_e rfl h) rfl (by decide)
    obtain ⟨lv, h, g, T⟩ := qa_istore (n := 4) (q := 65) (qa_e rfl h) rfl
    replace g0 := T _ _ g0 (by decide) (Or.inr rfl)
    replace g1 := T _ _ g1 (by decide) (Or.inr rfl)
    replace g2 := T _ _ g2 (by decide) (Or.inr rfl)
    have g4 := g
    clear g T
    replace h := qa_push (z := (-9 : Int32)) (q := 67) (qa_e rfl h) rfl (by decide)
    obtain ⟨lv, h, g, T⟩ := qa_istore (n := 5) (q := 69) (qa_e rfl h) rfl
    replace g0 := T _ _ g0 (by decide) (Or.inr rfl)
    replace g1 := T _ _ g1 (by decide) (Or.inr rfl)
    replace g2 := T _ _ g2 (by decide) (Or.inr rfl)
    replace g4 := T _ _ g4 (by decide) (Or.inr rfl)
    have g5 := g
    clear g T
    replace h := qa_push (z := (3 : Int32)) (q := 70) (qa_e rfl h) rfl (by decide)
    obtain ⟨lv, h, g, T⟩ := qa_istore (n := 6) (q := 72) (qa_e rfl h) rfl
    replace g0 := T _ _ g0 (by decide) (Or.inr rfl)
    replace g1 := T _ _ g1 (by decide) (Or.inr rfl)
    replace g2 := T _ _ g2 (by decide) (Or.inr rfl)
    replace g4 := T _ _ g4 (by decide) (Or.inr rfl)
    replace g5 := T _ _ g5 (by decide) (Or.inr rfl)
    have g6 := g
    clear g T
    obtain ⟨r8, er8⟩ : ∃ x, x = (qa_wh (fun s => s) (mc_225_99_p72 N a1 a2 m7) N ((3 : Int32), (-9 : Int32), (-9 : Int32))) := ⟨_, rfl⟩
    have L := md_225_99_p72 (l1 := a1) (l2 := a2) (σ := m7) (F := f) (N := N) (r := r) hN f N hN (Nat.le_refl f) ((3 : Int32), (-9 : Int32), (-9 : Int32)) _ _ hM es g0 g1 g2 g4 g5 g6 h
    rw [← er8] at L
    obtain ⟨lv, M, h, hM, es, g2, g4, g5⟩ := L
    replace h := qa_iload (n := 2) (q := 157) (qa_e rfl h) rfl g2
    obtain ⟨lv, M, h, hM, es⟩ : ∃ lv M, q4_run f 225 167 lv [.int ((if a2 = (0 : Int32) then r8.2.1 else r8.2.2))] M 0 0 = some r ∧ qa_O M ∧ qa_s M = m7 := by
      by_cases c9 : a2 = (0 : Int32)
      · replace h := qa_icf (q := 160) (qa_e rfl h) rfl (qa_F_ne c9)
        replace h := qa_iload (n := 4) (q := 162) (qa_e rfl h) rfl g4
        replace h := qa_goto (q := 167) (qa_e rfl h) rfl
        exact ⟨lv, M, (qa_hi1 c9 h), hM, es⟩
      · replace h := qa_ict (q := 165) (qa_e rfl h) rfl (qa_T_ne c9)
        replace h := qa_iload (n := 5) (q := 167) (qa_e rfl h) rfl g5
        exact ⟨lv, M, (qa_hi0 c9 h), hM, es⟩
    have er := qa_ri (qa_e rfl h)
    subst er
    have e0 : ma_225_99 N a1 a2 σ = ((if a2 = (0 : Int32) then r8.2.1 else r8.2.2), m7) := by exact Eq.trans (qa_ie em1) (Eq.trans (if_neg c5) (Eq.trans (qa_ie em7) (Eq.trans (qa_ie er8) (rfl))))
    rw [e0]
    exact ⟨rfl, hM, es⟩
/-- BuriedBySevensModel, plainly, (I)I -/
noncomputable def ma_227 (a0 : Int32) : Int32 :=
  (if a0 < (0 : Int32) then (-a0) else a0)
theorem mb_227 {f : Nat} {M : q4_M} {r : Option Value × q4_M} {σ : qa_S} {a0 : Int32} (hM : qa_O M) (es : qa_s M = σ) (h : q4_run f 227 0 (lv_args 0 [.int (a0)]) [] M 0 0 = some r) : r.1 = some (.int ((ma_227 a0))) ∧ qa_O r.2 ∧ qa_s r.2 = σ := by
  obtain ⟨lv, el⟩ : ∃ l, l = lv_args 0 [.int (a0)] := ⟨_, rfl⟩
  have g0 : q4_get lv 0 = some (.int (a0)) := by rw [el]; rfl
  rw [← el] at h
  clear el
  replace h := qa_iload (n := 0) (q := 1) (qa_e rfl h) rfl g0
  obtain ⟨lv, M, h, hM, es⟩ : ∃ lv M, q4_run f 227 10 lv [.int ((if a0 < (0 : Int32) then (-a0) else a0))] M 0 0 = some r ∧ qa_O M ∧ qa_s M = σ := by
    by_cases c1 : a0 < (0 : Int32)
    · replace h := qa_icf (q := 4) (qa_e rfl h) rfl (qa_F_ge c1)
      replace h := qa_iload (n := 0) (q := 5) (qa_e rfl h) rfl g0
      replace h := qa_ineg (q := 6) (qa_e rfl h) rfl
      replace h := qa_goto (q := 10) (qa_e rfl h) rfl
      exact ⟨lv, M, (qa_hi1 c1 h), hM, es⟩
    · replace h := qa_ict (q := 9) (qa_e rfl h) rfl (qa_T_ge c1)
      replace h := qa_iload (n := 0) (q := 10) (qa_e rfl h) rfl g0
      exact ⟨lv, M, (qa_hi0 c1 h), hM, es⟩
  have er := qa_ri (qa_e rfl h)
  subst er
  have e0 : ma_227 a0 = (if a0 < (0 : Int32) then (-a0) else a0) := by exact rfl
  rw [e0]
  exact ⟨rfl, hM, es⟩
noncomputable def mc_226_99_p46 (N : Nat) (l1 : Int32) (l2 : Int32) (l3 : Int32) (l4 : Int32) (σ : qa_S) (s : Int32 × Int32) : (Int32 × Int32) ⊕ (Int32 × Int32) :=
  if s.1 < (4 : Int32) then
    .inl ((s.1 + (1 : Int32)), (s.2 + (ma_227 ((σ 108 (((4 : Int32) * l3) + s.1).toNatClampNeg) - (σ 108 (((4 : Int32) * l4) + s.1).toNatClampNeg)))))
  else
    .inr (s.1, s.2)
theorem md_226_99_p46 {N F : Nat} {r : Option Value × q4_M} {l1 : Int32} {l2 : Int32} {l3 : Int32} {l4 : Int32} {σ : qa_S} (hN : F ≤ N) : ∀ f n, f ≤ n → f ≤ F → ∀ (s : Int32 × Int32) (lv : List (Nat × Value)) (M : q4_M), qa_O M → qa_s M = σ → q4_get lv 0 = some (.ref 99) → q4_get lv 1 = some (.int (l1)) → q4_get lv 2 = some (.int (l2)) → q4_get lv 3 = some (.int (l3)) → q4_get lv 4 = some (.int (l4)) → q4_get lv 5 = some (.int (s.2)) → q4_get lv 6 = some (.int (s.1)) → q4_run f 226 46 lv [] M 0 0 = some r → ∃ lv M, q4_run F 226 90 lv [] M 0 0 = some r ∧ qa_O M ∧ qa_s M = σ ∧ q4_get lv 0 = some (.ref 99) ∧ q4_get lv 1 = some (.int (l1)) ∧ q4_get lv 2 = some (.int (l2)) ∧ q4_get lv 3 = some (.int (l3)) ∧ q4_get lv 4 = some (.int (l4)) ∧ q4_get lv 5 = some (.int ((qa_wh (fun s => s) (mc_226_99_p46 N l1 l2 l3 l4 σ) n s).2)) := by
  intro f
  induction f with
  | zero => intro n _ _ s lv M hM es _ _ _ _ _ _ _ h; cases h
  | succ f ih =>
    intro n hn hF s lv M hM es g0 g1 g2 g3 g4 g5 g6 h
    obtain ⟨n, rfl⟩ : ∃ n1, n = n1 + 1 := ⟨n - 1, by omega⟩
    replace hn : f ≤ n := Nat.le_of_succ_le_succ hn
    have hN := Nat.le_trans (Nat.le_of_succ_le hF) hN
    replace h := qa_iload (n := 6) (q := 48) (qa_d rfl h) rfl g6
    replace h := qa_push (z := (4 : Int32)) (q := 49) (qa_e rfl h) rfl (by decide)
    by_cases c1 : s.1 < (4 : Int32)
    · replace h := qa_iff (q := 52) (qa_e rfl h) rfl (qa_F_ge c1)
      replace h := qa_iload (n := 5) (q := 54) (qa_e rfl h) rfl g5
      replace h := qa_aload (n := 0) (q := 55) (qa_e rfl h) rfl g0
      replace h := qa_gr (b := 108) (j := 11) (q := 58) (qa_e rfl h) rfl hM rfl (by decide)
      replace h := qa_push (z := (4 : Int32)) (q := 59) (qa_e rfl h) rfl (by decide)
      replace h := qa_iload (n := 3) (q := 60) (qa_e rfl h) rfl g3
      replace h := qa_imul (q := 61) (qa_e rfl h) rfl
      replace h := qa_iload (n := 6) (q := 63) (qa_e rfl h) rfl g6
      replace h := qa_iadd (q := 64) (qa_e rfl h) rfl
      replace h := qa_iaload (jn := (((4 : Int32) * l3) + s.1).toNatClampNeg) (q := 65) (qa_e rfl h) rfl hM es rfl
      replace h := qa_aload (n := 0) (q := 66) (qa_e rfl h) rfl g0
      replace h := qa_gr (b := 108) (j := 11) (q := 69) (qa_e rfl h) rfl hM rfl (by decide)
      replace h := qa_push (z := (4 : Int32)) (q := 70) (qa_e rfl h) rfl (by decide)
      replace h := qa_iload (n := 4) (q := 72) (qa_e rfl h) rfl g4
      replace h := qa_imul (q := 73) (qa_e rfl h) rfl
      replace h := qa_iload (n := 6) (q := 75) (qa_e rfl h) rfl g6
      replace h := qa_iadd (q := 76) (qa_e rfl h) rfl
      replace h := qa_iaload (jn := (((4 : Int32) * l4) + s.1).toNatClampNeg) (q := 77) (qa_e rfl h) rfl hM es rfl
      replace h := qa_isub (q := 78) (qa_e rfl h) rfl
      obtain ⟨M, h, hM, es⟩ := qa_c1 (y := 227) (as := [.int (((σ 108 (((4 : Int32) * l3) + s.1).toNatClampNeg) - (σ 108 (((4 : Int32) * l4) + s.1).toNatClampNeg)))]) (rest := [.int (s.2)]) (i := .invokestatic 227) (q := 81) (qa_e rfl h) (Or.inr rfl) rfl rfl (by decide) rfl (fun r hc => mb_227 hM es hc)
      replace h := qa_iadd (q := 82) (qa_e rfl h) rfl
      obtain ⟨lv, h, g, T⟩ := qa_istore (n := 5) (q := 84) (qa_e rfl h) rfl
      replace g0 := T _ _ g0 (by decide) (Or.inr rfl)
      replace g1 := T _ _ g1 (by decide) (Or.inr rfl)
      replace g2 := T _ _ g2 (by decide) (Or.inr rfl)
      replace g3 := T _ _ g3 (by decide) (Or.inr rfl)
      replace g4 := T _ _ g4 (by decide) (Or.inr rfl)
      replace g6 := T _ _ g6 (by decide) (Or.inr rfl)
      have g5 := g
      clear g T
      obtain ⟨lv, h, g, T⟩ := qa_iinc (n := 6) (z := (1 : Int32)) (q := 87) (qa_e rfl h) rfl (by decide) g6
      replace g0 := T _ _ g0 (by decide) (Or.inr rfl)
      replace g1 := T _ _ g1 (by decide) (Or.inr rfl)
      replace g2 := T _ _ g2 (by decide) (Or.inr rfl)
      replace g3 := T _ _ g3 (by decide) (Or.inr rfl)
      replace g4 := T _ _ g4 (by decide) (Or.inr rfl)
      replace g5 := T _ _ g5 (by decide) (Or.inr rfl)
      replace g6 := g
      clear g T
      replace h := qa_goto (q := 46) (qa_e rfl h) rfl
      have e0 : mc_226_99_p46 N l1 l2 l3 l4 σ s = .inl ((s.1 + (1 : Int32)), (s.2 + (ma_227 ((σ 108 (((4 : Int32) * l3) + s.1).toNatClampNeg) - (σ 108 (((4 : Int32) * l4) + s.1).toNatClampNeg))))) := by exact Eq.trans (if_pos c1) (rfl)
      rw [qa_whl e0]
      exact ih n hn (Nat.le_of_succ_le hF) ((s.1 + (1 : Int32)), (s.2 + (ma_227 ((σ 108 (((4 : Int32) * l3) + s.1).toNatClampNeg) - (σ 108 (((4 : Int32) * l4) + s.1).toNatClampNeg))))) _ _ hM es g0 g1 g2 g3 g4 g5 g6 h
    · replace h := qa_ift (q := 90) (qa_e rfl h) rfl (qa_T_ge c1)
      have e0 : mc_226_99_p46 N l1 l2 l3 l4 σ s = .inr (s.1, s.2) := by exact Eq.trans (if_neg c1) (rfl)
      rw [qa_whr e0]
      exact ⟨_, _, q61_mono f F _ _ _ _ _ _ _ _ (Nat.le_of_succ_le hF) h, hM, es, g0, g1, g2, g3, g4, g5⟩
noncomputable def mc_226_99_p31 (N : Nat) (l3 : Int32) (σ : qa_S) (s : Int32 × Int32 × Int32) : (Int32 × Int32 × Int32) ⊕ (Int32 × Int32 × Int32) :=
  if s.1 < (σ 99 0) then
    qa_in ((qa_wh (fun s => s) (mc_226_99_p46 N s.2.1 s.2.2 l3 s.1 σ) N ((0 : Int32), (0 : Int32)))) fun r2 =>
    .inl ((s.1 + (1 : Int32)), (if r2.2 < s.2.2 then (((10 : Int32) * l3) + s.1) else s.2.1), (if r2.2 < s.2.2 then r2.2 else s.2.2))
  else
    .inr (s.1, s.2.1, s.2.2)
theorem md_226_99_p31 {N F : Nat} {r : Option Value × q4_M} {l3 : Int32} {σ : qa_S} (hN : F ≤ N) : ∀ f n, f ≤ n → f ≤ F → ∀ (s : Int32 × Int32 × Int32) (lv : List (Nat × Value)) (M : q4_M), qa_O M → qa_s M = σ → q4_get lv 0 = some (.ref 99) → q4_get lv 1 = some (.int (s.2.1)) → q4_get lv 2 = some (.int (s.2.2)) → q4_get lv 3 = some (.int (l3)) → q4_get lv 4 = some (.int (s.1)) → q4_run f 226 31 lv [] M 0 0 = some r → ∃ lv M, q4_run F 226 127 lv [] M 0 0 = some r ∧ qa_O M ∧ qa_s M = σ ∧ q4_get lv 0 = some (.ref 99) ∧ q4_get lv 1 = some (.int ((qa_wh (fun s => s) (mc_226_99_p31 N l3 σ) n s).2.1)) ∧ q4_get lv 2 = some (.int ((qa_wh (fun s => s) (mc_226_99_p31 N l3 σ) n s).2.2)) ∧ q4_get lv 3 = some (.int (l3)) := by
  intro f
  induction f with
  | zero => intro n _ _ s lv M hM es _ _ _ _ _ h; cases h
  | succ f ih =>
    intro n hn hF s lv M hM es g0 g1 g2 g3 g4 h
    obtain ⟨n, rfl⟩ : ∃ n1, n = n1 + 1 := ⟨n - 1, by omega⟩
    replace hn : f ≤ n := Nat.le_of_succ_le_succ hn
    have hN := Nat.le_trans (Nat.le_of_succ_le hF) hN
    replace h := qa_iload (n := 4) (q := 33) (qa_d rfl h) rfl g4
    replace h := qa_aload (n := 0) (q := 34) (qa_e rfl h) rfl g0
    replace h := qa_gi (j := 0) (q := 37) (qa_e rfl h) rfl hM es rfl (by decide)
    by_cases c1 : s.1 < (σ 99 0)
    · replace h := qa_iff (q := 40) (qa_e rfl h) rfl (qa_F_ge c1)
      replace h := qa_push (z := (0 : Int32)) (q := 41) (qa_e rfl h) rfl (by decide)
      obtain ⟨lv, h, g, T⟩ := qa_istore (n := 5) (q := 43) (qa_e rfl h) rfl
      replace g0 := T _ _ g0 (by decide) (Or.inr rfl)
      replace g1 := T _ _ g1 (by decide) (Or.inr rfl)
      replace g2 := T _ _ g2 (by decide) (Or.inr rfl)
      replace g3 := T _ _ g3 (by decide) (Or.inr rfl)
      replace g4 := T _ _ g4 (by decide) (Or.inr rfl)
      have g5 := g
      clear g T
      replace h := qa_push (z := (0 : Int32)) (q := 44) (qa_e rfl h) rfl (by decide)
      obtain ⟨lv, h, g, T⟩ := qa_istore (n := 6) (q := 46) (qa_e rfl h) rfl
      replace g0 := T _ _ g0 (by decide) (Or.inr rfl)
      replace g1 := T _ _ g1 (by decide) (Or.inr rfl)
      replace g2 := T _ _ g2 (by decide) (Or.inr rfl)
      replace g3 := T _ _ g3 (by decide) (Or.inr rfl)
      replace g4 := T _ _ g4 (by decide) (Or.inr rfl)
      replace g5 := T _ _ g5 (by decide) (Or.inr rfl)
      have g6 := g
      clear g T
      obtain ⟨r2, er2⟩ : ∃ x, x = (qa_wh (fun s => s) (mc_226_99_p46 N s.2.1 s.2.2 l3 s.1 σ) N ((0 : Int32), (0 : Int32))) := ⟨_, rfl⟩
      have L := md_226_99_p46 (l1 := s.2.1) (l2 := s.2.2) (l3 := l3) (l4 := s.1) (σ := σ) (F := f) (N := N) (r := r) hN f N hN (Nat.le_refl f) ((0 : Int32), (0 : Int32)) _ _ hM es g0 g1 g2 g3 g4 g5 g6 h
      rw [← er2] at L
      obtain ⟨lv, M, h, hM, es, g0, g1, g2, g3, g4, g5⟩ := L
      replace h := qa_iload (n := 5) (q := 92) (qa_e rfl h) rfl g5
      replace h := qa_iload (n := 2) (q := 93) (qa_e rfl h) rfl g2
      obtain ⟨lv, M, h, hM, es, g0, g2, g3, g4, g5⟩ : ∃ lv M, q4_run f 226 107 lv [.int ((if r2.2 < s.2.2 then (((10 : Int32) * l3) + s.1) else s.2.1))] M 0 0 = some r ∧ qa_O M ∧ qa_s M = σ ∧ q4_get lv 0 = some (.ref 99) ∧ q4_get lv 2 = some (.int (s.2.2)) ∧ q4_get lv 3 = some (.int (l3)) ∧ q4_get lv 4 = some (.int (s.1)) ∧ q4_get lv 5 = some (.int (r2.2)) := by
        by_cases c3 : r2.2 < s.2.2
        · replace h := qa_iff (q := 96) (qa_e rfl h) rfl (qa_F_ge c3)
          replace h := qa_push (z := (10 : Int32)) (q := 98) (qa_e rfl h) rfl (by decide)
          replace h := qa_iload (n := 3) (q := 99) (qa_e rfl h) rfl g3
          replace h := qa_imul (q := 100) (qa_e rfl h) rfl
          replace h := qa_iload (n := 4) (q := 102) (qa_e rfl h) rfl g4
          replace h := qa_iadd (q := 103) (qa_e rfl h) rfl
          replace h := qa_goto (q := 107) (qa_e rfl h) rfl
          exact ⟨lv, M, (qa_hi1 c3 h), hM, es, g0, g2, g3, g4, g5⟩
        · replace h := qa_ift (q := 106) (qa_e rfl h) rfl (qa_T_ge c3)
          replace h := qa_iload (n := 1) (q := 107) (qa_e rfl h) rfl g1
          exact ⟨lv, M, (qa_hi0 c3 h), hM, es, g0, g2, g3, g4, g5⟩
      obtain ⟨lv, h, g, T⟩ := qa_istore (n := 1) (q := 108) (qa_e rfl h) rfl
      replace g0 := T _ _ g0 (by decide) (Or.inr rfl)
      replace g2 := T _ _ g2 (by decide) (Or.inr rfl)
      replace g3 := T _ _ g3 (by decide) (Or.inr rfl)
      replace g4 := T _ _ g4 (by decide) (Or.inr rfl)
      replace g5 := T _ _ g5 (by decide) (Or.inr rfl)
      have g1 := g
      clear g T
      replace h := qa_iload (n := 5) (q := 110) (qa_e rfl h) rfl g5
      replace h := qa_iload (n := 2) (q := 111) (qa_e rfl h) rfl g2
      obtain ⟨lv, M, h, hM, es, g0, g1, g3, g4⟩ : ∃ lv M, q4_run f 226 120 lv [.int ((if r2.2 < s.2.2 then r2.2 else s.2.2))] M 0 0 = some r ∧ qa_O M ∧ qa_s M = σ ∧ q4_get lv 0 = some (.ref 99) ∧ q4_get lv 1 = some (.int ((if r2.2 < s.2.2 then (((10 : Int32) * l3) + s.1) else s.2.1))) ∧ q4_get lv 3 = some (.int (l3)) ∧ q4_get lv 4 = some (.int (s.1)) := by
        by_cases c4 : r2.2 < s.2.2
        · replace h := qa_iff (q := 114) (qa_e rfl h) rfl (qa_F_ge c4)
          replace h := qa_iload (n := 5) (q := 116) (qa_e rfl h) rfl g5
          replace h := qa_goto (q := 120) (qa_e rfl h) rfl
          exact ⟨lv, M, (qa_hi1 c4 h), hM, es, g0, g1, g3, g4⟩
        · replace h := qa_ift (q := 119) (qa_e rfl h) rfl (qa_T_ge c4)
          replace h := qa_iload (n := 2) (q := 120) (qa_e rfl h) rfl g2
          exact ⟨lv, M, (qa_hi0 c4 h), hM, es, g0, g1, g3, g4⟩
      obtain ⟨lv, h, g, T⟩ := qa_istore (n := 2) (q := 121) (qa_e rfl h) rfl
      replace g0 := T _ _ g0 (by decide) (Or.inr rfl)
      replace g1 := T _ _ g1 (by decide) (Or.inr rfl)
      replace g3 := T _ _ g3 (by decide) (Or.inr rfl)
      replace g4 := T _ _ g4 (by decide) (Or.inr rfl)
      have g2 := g
      clear g T
      obtain ⟨lv, h, g, T⟩ := qa_iinc (n := 4) (z := (1 : Int32)) (q := 124) (qa_e rfl h) rfl (by decide) g4
      replace g0 := T _ _ g0 (by decide) (Or.inr rfl)
      replace g1 := T _ _ g1 (by decide) (Or.inr rfl)
      replace g2 := T _ _ g2 (by decide) (Or.inr rfl)
      replace g3 := T _ _ g3 (by decide) (Or.inr rfl)
      replace g4 := g
      clear g T
      replace h := qa_goto (q := 31) (qa_e rfl h) rfl
      have e0 : mc_226_99_p31 N l3 σ s = .inl ((s.1 + (1 : Int32)), (if r2.2 < s.2.2 then (((10 : Int32) * l3) + s.1) else s.2.1), (if r2.2 < s.2.2 then r2.2 else s.2.2)) := by exact Eq.trans (if_pos c1) (Eq.trans (qa_ie er2) (rfl))
      rw [qa_whl e0]
      exact ih n hn (Nat.le_of_succ_le hF) ((s.1 + (1 : Int32)), (if r2.2 < s.2.2 then (((10 : Int32) * l3) + s.1) else s.2.1), (if r2.2 < s.2.2 then r2.2 else s.2.2)) _ _ hM es g0 g1 g2 g3 g4 h
    · replace h := qa_ift (q := 127) (qa_e rfl h) rfl (qa_T_ge c1)
      have e0 : mc_226_99_p31 N l3 σ s = .inr (s.1, s.2.1, s.2.2) := by exact Eq.trans (if_neg c1) (rfl)
      rw [qa_whr e0]
      exact ⟨_, _, q61_mono f F _ _ _ _ _ _ _ _ (Nat.le_of_succ_le hF) h, hM, es, g0, g1, g2, g3⟩
noncomputable def mc_226_99_p18 (N : Nat) (σ : qa_S) (s : Int32 × Int32 × Int32) : (Int32 × Int32 × Int32) ⊕ (Int32 × Int32 × Int32) :=
  if s.1 < (σ 99 0) then
    qa_in ((qa_wh (fun s => s) (mc_226_99_p31 N s.1 σ) N ((s.1 + (1 : Int32)), s.2.1, s.2.2))) fun r2 =>
    .inl ((s.1 + (1 : Int32)), r2.2.1, r2.2.2)
  else
    .inr (s.1, s.2.1, s.2.2)
theorem md_226_99_p18 {N F : Nat} {r : Option Value × q4_M} {σ : qa_S} (hN : F ≤ N) : ∀ f n, f ≤ n → f ≤ F → ∀ (s : Int32 × Int32 × Int32) (lv : List (Nat × Value)) (M : q4_M), qa_O M → qa_s M = σ → q4_get lv 0 = some (.ref 99) → q4_get lv 1 = some (.int (s.2.1)) → q4_get lv 2 = some (.int (s.2.2)) → q4_get lv 3 = some (.int (s.1)) → q4_run f 226 18 lv [] M 0 0 = some r → ∃ lv M, q4_run F 226 133 lv [] M 0 0 = some r ∧ qa_O M ∧ qa_s M = σ ∧ q4_get lv 1 = some (.int ((qa_wh (fun s => s) (mc_226_99_p18 N σ) n s).2.1)) := by
  intro f
  induction f with
  | zero => intro n _ _ s lv M hM es _ _ _ _ h; cases h
  | succ f ih =>
    intro n hn hF s lv M hM es g0 g1 g2 g3 h
    obtain ⟨n, rfl⟩ : ∃ n1, n = n1 + 1 := ⟨n - 1, by omega⟩
    replace hn : f ≤ n := Nat.le_of_succ_le_succ hn
    have hN := Nat.le_trans (Nat.le_of_succ_le hF) hN
    replace h := qa_iload (n := 3) (q := 19) (qa_d rfl h) rfl g3
    replace h := qa_aload (n := 0) (q := 20) (qa_e rfl h) rfl g0
    replace h := qa_gi (j := 0) (q := 23) (qa_e rfl h) rfl hM es rfl (by decide)
    by_cases c1 : s.1 < (σ 99 0)
    · replace h := qa_iff (q := 26) (qa_e rfl h) rfl (qa_F_ge c1)
      replace h := qa_iload (n := 3) (q := 27) (qa_e rfl h) rfl g3
      replace h := qa_push (z := (1 : Int32)) (q := 28) (qa_e rfl h) rfl (by decide)
      replace h := qa_iadd (q := 29) (qa_e rfl h) rfl
      obtain ⟨lv, h, g, T⟩ := qa_istore (n := 4) (q := 31) (qa_e rfl h) rfl
      replace g0 := T _ _ g0 (by decide) (Or.inr rfl)
      replace g1 := T _ _ g1 (by decide) (Or.inr rfl)
      replace g2 := T _ _ g2 (by decide) (Or.inr rfl)
      replace g3 := T _ _ g3 (by decide) (Or.inr rfl)
      have g4 := g
      clear g T
      obtain ⟨r2, er2⟩ : ∃ x, x = (qa_wh (fun s => s) (mc_226_99_p31 N s.1 σ) N ((s.1 + (1 : Int32)), s.2.1, s.2.2)) := ⟨_, rfl⟩
      have L := md_226_99_p31 (l3 := s.1) (σ := σ) (F := f) (N := N) (r := r) hN f N hN (Nat.le_refl f) ((s.1 + (1 : Int32)), s.2.1, s.2.2) _ _ hM es g0 g1 g2 g3 g4 h
      rw [← er2] at L
      obtain ⟨lv, M, h, hM, es, g0, g1, g2, g3⟩ := L
      obtain ⟨lv, h, g, T⟩ := qa_iinc (n := 3) (z := (1 : Int32)) (q := 130) (qa_e rfl h) rfl (by decide) g3
      replace g0 := T _ _ g0 (by decide) (Or.inr rfl)
      replace g1 := T _ _ g1 (by decide) (Or.inr rfl)
      replace g2 := T _ _ g2 (by decide) (Or.inr rfl)
      replace g3 := g
      clear g T
      replace h := qa_goto (q := 18) (qa_e rfl h) rfl
      have e0 : mc_226_99_p18 N σ s = .inl ((s.1 + (1 : Int32)), r2.2.1, r2.2.2) := by exact Eq.trans (if_pos c1) (Eq.trans (qa_ie er2) (rfl))
      rw [qa_whl e0]
      exact ih n hn (Nat.le_of_succ_le hF) ((s.1 + (1 : Int32)), r2.2.1, r2.2.2) _ _ hM es g0 g1 g2 g3 h
    · replace h := qa_ift (q := 133) (qa_e rfl h) rfl (qa_T_ge c1)
      have e0 : mc_226_99_p18 N σ s = .inr (s.1, s.2.1, s.2.2) := by exact Eq.trans (if_neg c1) (rfl)
      rw [qa_whr e0]
      exact ⟨_, _, q61_mono f F _ _ _ _ _ _ _ _ (Nat.le_of_succ_le hF) h, hM, es, g1⟩
/-- BuriedBySevensModel, nearest, ()I -/
noncomputable def ma_226_99 (N : Nat) (σ : qa_S) : Int32 × qa_S :=
  qa_in (qa_u σ 99 9 (0 : Int32)) fun m1 =>
  qa_in ((ma_181_99 N m1)) fun m2 =>
  qa_in ((qa_wh (fun s => s) (mc_226_99_p18 N m2) N ((0 : Int32), (-9 : Int32), (9999 : Int32)))) fun r3 =>
  (r3.2.1, m2)
theorem mb_226_99 {f N : Nat} (hN : f ≤ N) {M : q4_M} {r : Option Value × q4_M} {σ : qa_S} (hM : qa_O M) (es : qa_s M = σ) (h : q4_run f 226 0 (lv_args 0 [.ref 99]) [] M 0 0 = some r) : r.1 = some (.int ((ma_226_99 N σ).1)) ∧ qa_O r.2 ∧ qa_s r.2 = (ma_226_99 N σ).2 := by
  obtain ⟨lv, el⟩ : ∃ l, l = lv_args 0 [.ref 99] := ⟨_, rfl⟩
  have g0 : q4_get lv 0 = some (.ref 99) := by rw [el]; rfl
  rw [← el] at h
  clear el
  replace h := qa_aload (n := 0) (q := 1) (qa_e rfl h) rfl g0
  replace h := qa_push (z := (0 : Int32)) (q := 2) (qa_e rfl h) rfl (by decide)
  obtain ⟨m1, em1⟩ : ∃ x, x = qa_u σ 99 9 (0 : Int32) := ⟨_, rfl⟩
  obtain ⟨M, h, hM, es⟩ := qa_pf (j := 9) (q := 5) (qa_e rfl h) rfl hM es rfl (by decide)
  rw [← em1] at es
  replace h := qa_aload (n := 0) (q := 6) (qa_e rfl h) rfl g0
  obtain ⟨m2, em2⟩ : ∃ x, x = (ma_181_99 N m1) := ⟨_, rfl⟩
  obtain ⟨M, h, hM, es⟩ := qa_c0 (y := 181) (as := [.ref 99]) (rest := []) (i := .invokevirtual 181) (q := 9) (qa_e rfl h) (Or.inl rfl) rfl rfl (by decide) rfl (fun r hc => mb_181_99 hN hM es hc)
  rw [← em2] at es
  replace h := qa_push (z := (-9 : Int32)) (q := 11) (qa_e rfl h) rfl (by decide)
  obtain ⟨lv, h, g, T⟩ := qa_istore (n := 1) (q := 12) (qa_e rfl h) rfl
  replace g0 := T _ _ g0 (by decide) (Or.inr rfl)
  have g1 := g
  clear g T
  replace h := qa_push (z := (9999 : Int32)) (q := 15) (qa_e rfl h) rfl (by decide)
  obtain ⟨lv, h, g, T⟩ := qa_istore (n := 2) (q := 16) (qa_e rfl h) rfl
  replace g0 := T _ _ g0 (by decide) (Or.inr rfl)
  replace g1 := T _ _ g1 (by decide) (Or.inr rfl)
  have g2 := g
  clear g T
  replace h := qa_push (z := (0 : Int32)) (q := 17) (qa_e rfl h) rfl (by decide)
  obtain ⟨lv, h, g, T⟩ := qa_istore (n := 3) (q := 18) (qa_e rfl h) rfl
  replace g0 := T _ _ g0 (by decide) (Or.inr rfl)
  replace g1 := T _ _ g1 (by decide) (Or.inr rfl)
  replace g2 := T _ _ g2 (by decide) (Or.inr rfl)
  have g3 := g
  clear g T
  obtain ⟨r3, er3⟩ : ∃ x, x = (qa_wh (fun s => s) (mc_226_99_p18 N m2) N ((0 : Int32), (-9 : Int32), (9999 : Int32))) := ⟨_, rfl⟩
  have L := md_226_99_p18 (σ := m2) (F := f) (N := N) (r := r) hN f N hN (Nat.le_refl f) ((0 : Int32), (-9 : Int32), (9999 : Int32)) _ _ hM es g0 g1 g2 g3 h
  rw [← er3] at L
  obtain ⟨lv, M, h, hM, es, g1⟩ := L
  replace h := qa_iload (n := 1) (q := 134) (qa_e rfl h) rfl g1
  have er := qa_ri (qa_e rfl h)
  subst er
  have e0 : ma_226_99 N σ = (r3.2.1, m2) := by exact Eq.trans (qa_ie em1) (Eq.trans (qa_ie em2) (Eq.trans (qa_ie er3) (rfl)))
  rw [e0]
  exact ⟨rfl, hM, es⟩
noncomputable def mc_228_99_p14 (N : Nat) (σ : qa_S) (s : Int32 × Int32) : (Int32 × Int32) ⊕ (Int32 × Int32) :=
  if s.1 < (σ 99 0) then
    .inl ((s.1 + (1 : Int32)), (if (0 : Int32) < (σ 103 s.1.toNatClampNeg) then (if s.2 < (0 : Int32) then s.1 else (if ((σ 103 s.2.toNatClampNeg) * (ma_216_99 s.2 σ)) < ((σ 103 s.1.toNatClampNeg) * (ma_216_99 s.1 σ)) then s.1 else s.2)) else s.2))
  else
    .inr (s.1, s.2)
theorem md_228_99_p14 {N F : Nat} {r : Option Value × q4_M} {σ : qa_S} (hN : F ≤ N) : ∀ f n, f ≤ n → f ≤ F → ∀ (s : Int32 × Int32) (lv : List (Nat × Value)) (M : q4_M), qa_O M → qa_s M = σ → q4_get lv 0 = some (.ref 99) → q4_get lv 1 = some (.int (s.2)) → q4_get lv 2 = some (.int (s.1)) → q4_run f 228 14 lv [] M 0 0 = some r → ∃ lv M, q4_run F 228 74 lv [] M 0 0 = some r ∧ qa_O M ∧ qa_s M = σ ∧ q4_get lv 1 = some (.int ((qa_wh (fun s => s) (mc_228_99_p14 N σ) n s).2)) := by
  intro f
  induction f with
  | zero => intro n _ _ s lv M hM es _ _ _ h; cases h
  | succ f ih =>
    intro n hn hF s lv M hM es g0 g1 g2 h
    obtain ⟨n, rfl⟩ : ∃ n1, n = n1 + 1 := ⟨n - 1, by omega⟩
    replace hn : f ≤ n := Nat.le_of_succ_le_succ hn
    have hN := Nat.le_trans (Nat.le_of_succ_le hF) hN
    replace h := qa_iload (n := 2) (q := 15) (qa_d rfl h) rfl g2
    replace h := qa_aload (n := 0) (q := 16) (qa_e rfl h) rfl g0
    replace h := qa_gi (j := 0) (q := 19) (qa_e rfl h) rfl hM es rfl (by decide)
    by_cases c1 : s.1 < (σ 99 0)
    · replace h := qa_iff (q := 22) (qa_e rfl h) rfl (qa_F_ge c1)
      replace h := qa_aload (n := 0) (q := 23) (qa_e rfl h) rfl g0
      replace h := qa_gr (b := 103) (j := 4) (q := 26) (qa_e rfl h) rfl hM rfl (by decide)
      replace h := qa_iload (n := 2) (q := 27) (qa_e rfl h) rfl g2
      replace h := qa_iaload (jn := s.1.toNatClampNeg) (q := 28) (qa_e rfl h) rfl hM es rfl
      obtain ⟨lv, M, h, hM, es, g0, g1, g2⟩ : ∃ lv M, q4_run f 228 68 lv [] M 0 0 = some r ∧ qa_O M ∧ qa_s M = σ ∧ q4_get lv 0 = some (.ref 99) ∧ q4_get lv 1 = some (.int ((if (0 : Int32) < (σ 103 s.1.toNatClampNeg) then (if s.2 < (0 : Int32) then s.1 else (if ((σ 103 s.2.toNatClampNeg) * (ma_216_99 s.2 σ)) < ((σ 103 s.1.toNatClampNeg) * (ma_216_99 s.1 σ)) then s.1 else s.2)) else s.2))) ∧ q4_get lv 2 = some (.int (s.1)) := by
        by_cases c2 : (0 : Int32) < (σ 103 s.1.toNatClampNeg)
        · replace h := qa_icf (q := 31) (qa_e rfl h) rfl (qa_F_le c2)
          replace h := qa_iload (n := 1) (q := 32) (qa_e rfl h) rfl g1
          obtain ⟨lv, M, h, hM, es, g0, g2⟩ : ∃ lv M, q4_run f 228 67 lv [.int ((if s.2 < (0 : Int32) then s.1 else (if ((σ 103 s.2.toNatClampNeg) * (ma_216_99 s.2 σ)) < ((σ 103 s.1.toNatClampNeg) * (ma_216_99 s.1 σ)) then s.1 else s.2)))] M 0 0 = some r ∧ qa_O M ∧ qa_s M = σ ∧ q4_get lv 0 = some (.ref 99) ∧ q4_get lv 2 = some (.int (s.1)) := by
            by_cases c3 : s.2 < (0 : Int32)
            · replace h := qa_ict (q := 62) (qa_e rfl h) rfl (qa_T_lt c3)
              replace h := qa_iload (n := 2) (q := 63) (qa_e rfl h) rfl g2
              replace h := qa_goto (q := 67) (qa_e rfl h) rfl
              exact ⟨lv, M, (qa_hi1 c3 h), hM, es, g0, g2⟩
            · replace h := qa_icf (q := 35) (qa_e rfl h) rfl (qa_F_lt c3)
              replace h := qa_aload (n := 0) (q := 36) (qa_e rfl h) rfl g0
              replace h := qa_gr (b := 103) (j := 4) (q := 39) (qa_e rfl h) rfl hM rfl (by decide)
              replace h := qa_iload (n := 2) (q := 40) (qa_e rfl h) rfl g2
              replace h := qa_iaload (jn := s.1.toNatClampNeg) (q := 41) (qa_e rfl h) rfl hM es rfl
              replace h := qa_aload (n := 0) (q := 42) (qa_e rfl h) rfl g0
              replace h := qa_iload (n := 2) (q := 43) (qa_e rfl h) rfl g2
              obtain ⟨M, h, hM, es⟩ := qa_c1 (y := 216) (as := [.ref 99, .int (s.1)]) (rest := [.int ((σ 103 s.1.toNatClampNeg))]) (i := .invokevirtual 216) (q := 46) (qa_e rfl h) (Or.inl rfl) rfl rfl (by decide) rfl (fun r hc => mb_216_99 hM es hc)
              replace h := qa_imul (q := 47) (qa_e rfl h) rfl
              replace h := qa_aload (n := 0) (q := 48) (qa_e rfl h) rfl g0
              replace h := qa_gr (b := 103) (j := 4) (q := 51) (qa_e rfl h) rfl hM rfl (by decide)
              replace h := qa_iload (n := 1) (q := 52) (qa_e rfl h) rfl g1
              replace h := qa_iaload (jn := s.2.toNatClampNeg) (q := 53) (qa_e rfl h) rfl hM es rfl
              replace h := qa_aload (n := 0) (q := 54) (qa_e rfl h) rfl g0
              replace h := qa_iload (n := 1) (q := 55) (qa_e rfl h) rfl g1
              obtain ⟨M, h, hM, es⟩ := qa_c1 (y := 216) (as := [.ref 99, .int (s.2)]) (rest := [.int ((σ 103 s.2.toNatClampNeg)), .int (((σ 103 s.1.toNatClampNeg) * (ma_216_99 s.1 σ)))]) (i := .invokevirtual 216) (q := 58) (qa_e rfl h) (Or.inl rfl) rfl rfl (by decide) rfl (fun r hc => mb_216_99 hM es hc)
              replace h := qa_imul (q := 59) (qa_e rfl h) rfl
              obtain ⟨lv, M, h, hM, es, g0, g2⟩ : ∃ lv M, q4_run f 228 67 lv [.int ((if ((σ 103 s.2.toNatClampNeg) * (ma_216_99 s.2 σ)) < ((σ 103 s.1.toNatClampNeg) * (ma_216_99 s.1 σ)) then s.1 else s.2))] M 0 0 = some r ∧ qa_O M ∧ qa_s M = σ ∧ q4_get lv 0 = some (.ref 99) ∧ q4_get lv 2 = some (.int (s.1)) := by
                by_cases c4 : ((σ 103 s.2.toNatClampNeg) * (ma_216_99 s.2 σ)) < ((σ 103 s.1.toNatClampNeg) * (ma_216_99 s.1 σ))
                · replace h := qa_iff (q := 62) (qa_e rfl h) rfl (qa_F_le c4)
                  replace h := qa_iload (n := 2) (q := 63) (qa_e rfl h) rfl g2
                  replace h := qa_goto (q := 67) (qa_e rfl h) rfl
                  exact ⟨lv, M, (qa_hi1 c4 h), hM, es, g0, g2⟩
                · replace h := qa_ift (q := 66) (qa_e rfl h) rfl (qa_T_le c4)
                  replace h := qa_iload (n := 1) (q := 67) (qa_e rfl h) rfl g1
                  exact ⟨lv, M, (qa_hi0 c4 h), hM, es, g0, g2⟩
              exact ⟨lv, M, (qa_hi0 c3 h), hM, es, g0, g2⟩
          obtain ⟨lv, h, g, T⟩ := qa_istore (n := 1) (q := 68) (qa_e rfl h) rfl
          replace g0 := T _ _ g0 (by decide) (Or.inr rfl)
          replace g2 := T _ _ g2 (by decide) (Or.inr rfl)
          have g1 := g
          clear g T
          exact ⟨lv, M, h, hM, es, g0, (qa_gi1 c2 g1), g2⟩
        · replace h := qa_ict (q := 68) (qa_e rfl h) rfl (qa_T_le c2)
          exact ⟨lv, M, h, hM, es, g0, (qa_gi0 c2 g1), g2⟩
      obtain ⟨lv, h, g, T⟩ := qa_iinc (n := 2) (z := (1 : Int32)) (q := 71) (qa_e rfl h) rfl (by decide) g2
      replace g0 := T _ _ g0 (by decide) (Or.inr rfl)
      replace g1 := T _ _ g1 (by decide) (Or.inr rfl)
      replace g2 := g
      clear g T
      replace h := qa_goto (q := 14) (qa_e rfl h) rfl
      have e0 : mc_228_99_p14 N σ s = .inl ((s.1 + (1 : Int32)), (if (0 : Int32) < (σ 103 s.1.toNatClampNeg) then (if s.2 < (0 : Int32) then s.1 else (if ((σ 103 s.2.toNatClampNeg) * (ma_216_99 s.2 σ)) < ((σ 103 s.1.toNatClampNeg) * (ma_216_99 s.1 σ)) then s.1 else s.2)) else s.2)) := by exact Eq.trans (if_pos c1) (rfl)
      rw [qa_whl e0]
      exact ih n hn (Nat.le_of_succ_le hF) ((s.1 + (1 : Int32)), (if (0 : Int32) < (σ 103 s.1.toNatClampNeg) then (if s.2 < (0 : Int32) then s.1 else (if ((σ 103 s.2.toNatClampNeg) * (ma_216_99 s.2 σ)) < ((σ 103 s.1.toNatClampNeg) * (ma_216_99 s.1 σ)) then s.1 else s.2)) else s.2)) _ _ hM es g0 g1 g2 h
    · replace h := qa_ift (q := 74) (qa_e rfl h) rfl (qa_T_ge c1)
      have e0 : mc_228_99_p14 N σ s = .inr (s.1, s.2) := by exact Eq.trans (if_neg c1) (rfl)
      rw [qa_whr e0]
      exact ⟨_, _, q61_mono f F _ _ _ _ _ _ _ _ (Nat.le_of_succ_le hF) h, hM, es, g1⟩
/-- BuriedBySevensModel, strongest, ()I -/
noncomputable def ma_228_99 (N : Nat) (σ : qa_S) : Int32 × qa_S :=
  qa_in (qa_u σ 99 9 (0 : Int32)) fun m1 =>
  qa_in ((ma_181_99 N m1)) fun m2 =>
  qa_in ((qa_wh (fun s => s) (mc_228_99_p14 N m2) N ((0 : Int32), (-9 : Int32)))) fun r3 =>
  (r3.2, m2)
theorem mb_228_99 {f N : Nat} (hN : f ≤ N) {M : q4_M} {r : Option Value × q4_M} {σ : qa_S} (hM : qa_O M) (es : qa_s M = σ) (h : q4_run f 228 0 (lv_args 0 [.ref 99]) [] M 0 0 = some r) : r.1 = some (.int ((ma_228_99 N σ).1)) ∧ qa_O r.2 ∧ qa_s r.2 = (ma_228_99 N σ).2 := by
  obtain ⟨lv, el⟩ : ∃ l, l = lv_args 0 [.ref 99] := ⟨_, rfl⟩
  have g0 : q4_get lv 0 = some (.ref 99) := by rw [el]; rfl
  rw [← el] at h
  clear el
  replace h := qa_aload (n := 0) (q := 1) (qa_e rfl h) rfl g0
  replace h := qa_push (z := (0 : Int32)) (q := 2) (qa_e rfl h) rfl (by decide)
  obtain ⟨m1, em1⟩ : ∃ x, x = qa_u σ 99 9 (0 : Int32) := ⟨_, rfl⟩
  obtain ⟨M, h, hM, es⟩ := qa_pf (j := 9) (q := 5) (qa_e rfl h) rfl hM es rfl (by decide)
  rw [← em1] at es
  replace h := qa_aload (n := 0) (q := 6) (qa_e rfl h) rfl g0
  obtain ⟨m2, em2⟩ : ∃ x, x = (ma_181_99 N m1) := ⟨_, rfl⟩
  obtain ⟨M, h, hM, es⟩ := qa_c0 (y := 181) (as := [.ref 99]) (rest := []) (i := .invokevirtual 181) (q := 9) (qa_e rfl h) (Or.inl rfl) rfl rfl (by decide) rfl (fun r hc => mb_181_99 hN hM es hc)
  rw [← em2] at es
  replace h := qa_push (z := (-9 : Int32)) (q := 11) (qa_e rfl h) rfl (by decide)
  obtain ⟨lv, h, g, T⟩ := qa_istore (n := 1) (q := 12) (qa_e rfl h) rfl
  replace g0 := T _ _ g0 (by decide) (Or.inr rfl)
  have g1 := g
  clear g T
  replace h := qa_push (z := (0 : Int32)) (q := 13) (qa_e rfl h) rfl (by decide)
  obtain ⟨lv, h, g, T⟩ := qa_istore (n := 2) (q := 14) (qa_e rfl h) rfl
  replace g0 := T _ _ g0 (by decide) (Or.inr rfl)
  replace g1 := T _ _ g1 (by decide) (Or.inr rfl)
  have g2 := g
  clear g T
  obtain ⟨r3, er3⟩ : ∃ x, x = (qa_wh (fun s => s) (mc_228_99_p14 N m2) N ((0 : Int32), (-9 : Int32))) := ⟨_, rfl⟩
  have L := md_228_99_p14 (σ := m2) (F := f) (N := N) (r := r) hN f N hN (Nat.le_refl f) ((0 : Int32), (-9 : Int32)) _ _ hM es g0 g1 g2 h
  rw [← er3] at L
  obtain ⟨lv, M, h, hM, es, g1⟩ := L
  replace h := qa_iload (n := 1) (q := 75) (qa_e rfl h) rfl g1
  have er := qa_ri (qa_e rfl h)
  subst er
  have e0 : ma_228_99 N σ = (r3.2, m2) := by exact Eq.trans (qa_ie em1) (Eq.trans (qa_ie em2) (Eq.trans (qa_ie er3) (rfl)))
  rw [e0]
  exact ⟨rfl, hM, es⟩
noncomputable def mc_229_99_p15 (N : Nat) (s : Int32 × Int32 × Int32 × qa_S) : (Int32 × Int32 × Int32 × qa_S) ⊕ (Int32 × Int32 × Int32 × qa_S) :=
  if s.1 < (s.2.2.2 99 5) then
    qa_in (qa_u s.2.2.2 105 s.1.toNatClampNeg (0 : Int32)) fun m2 =>
    qa_in ((ma_193_99 N m2)) fun r3 =>
    qa_in (qa_u r3.2 105 s.1.toNatClampNeg (s.2.2.2 105 s.1.toNatClampNeg)) fun m4 =>
    .inl ((s.1 + (1 : Int32)), (if r3.1 < s.2.1 then r3.1 else s.2.1), (if r3.1 < s.2.1 then s.1 else s.2.2.1), m4)
  else
    .inr (s.1, s.2.1, s.2.2.1, s.2.2.2)
theorem md_229_99_p15 {N F : Nat} {r : Option Value × q4_M} (hN : F ≤ N) : ∀ f n, f ≤ n → f ≤ F → ∀ (s : Int32 × Int32 × Int32 × qa_S) (lv : List (Nat × Value)) (M : q4_M), qa_O M → qa_s M = s.2.2.2 → q4_get lv 0 = some (.ref 99) → q4_get lv 1 = some (.int (s.2.1)) → q4_get lv 2 = some (.int (s.2.2.1)) → q4_get lv 3 = some (.int (s.1)) → q4_run f 229 15 lv [] M 0 0 = some r → ∃ lv M, q4_run F 229 83 lv [] M 0 0 = some r ∧ qa_O M ∧ qa_s M = (qa_wh (fun s => s) (mc_229_99_p15 N) n s).2.2.2 ∧ q4_get lv 2 = some (.int ((qa_wh (fun s => s) (mc_229_99_p15 N) n s).2.2.1)) := by
  intro f
  induction f with
  | zero => intro n _ _ s lv M hM es _ _ _ _ h; cases h
  | succ f ih =>
    intro n hn hF s lv M hM es g0 g1 g2 g3 h
    obtain ⟨n, rfl⟩ : ∃ n1, n = n1 + 1 := ⟨n - 1, by omega⟩
    replace hn : f ≤ n := Nat.le_of_succ_le_succ hn
    have hN := Nat.le_trans (Nat.le_of_succ_le hF) hN
    replace h := qa_iload (n := 3) (q := 16) (qa_d rfl h) rfl g3
    replace h := qa_aload (n := 0) (q := 17) (qa_e rfl h) rfl g0
    replace h := qa_gi (j := 5) (q := 20) (qa_e rfl h) rfl hM es rfl (by decide)
    by_cases c1 : s.1 < (s.2.2.2 99 5)
    · replace h := qa_iff (q := 23) (qa_e rfl h) rfl (qa_F_ge c1)
      replace h := qa_aload (n := 0) (q := 24) (qa_e rfl h) rfl g0
      replace h := qa_gr (b := 105) (j := 7) (q := 27) (qa_e rfl h) rfl hM rfl (by decide)
      replace h := qa_iload (n := 3) (q := 28) (qa_e rfl h) rfl g3
      replace h := qa_iaload (jn := s.1.toNatClampNeg) (q := 29) (qa_e rfl h) rfl hM es rfl
      obtain ⟨lv, h, g, T⟩ := qa_istore (n := 4) (q := 31) (qa_e rfl h) rfl
      replace g0 := T _ _ g0 (by decide) (Or.inr rfl)
      replace g1 := T _ _ g1 (by decide) (Or.inr rfl)
      replace g2 := T _ _ g2 (by decide) (Or.inr rfl)
      replace g3 := T _ _ g3 (by decide) (Or.inr rfl)
      have g4 := g
      clear g T
      replace h := qa_aload (n := 0) (q := 32) (qa_e rfl h) rfl g0
      replace h := qa_gr (b := 105) (j := 7) (q := 35) (qa_e rfl h) rfl hM rfl (by decide)
      replace h := qa_iload (n := 3) (q := 36) (qa_e rfl h) rfl g3
      replace h := qa_push (z := (0 : Int32)) (q := 37) (qa_e rfl h) rfl (by decide)
      obtain ⟨m2, em2⟩ : ∃ x, x = qa_u s.2.2.2 105 s.1.toNatClampNeg (0 : Int32) := ⟨_, rfl⟩
      obtain ⟨M, h, hM, es⟩ := qa_iastore (jn := s.1.toNatClampNeg) (q := 38) (qa_e rfl h) rfl hM es rfl
      rw [← em2] at es
      replace h := qa_aload (n := 0) (q := 39) (qa_e rfl h) rfl g0
      obtain ⟨r3, er3⟩ : ∃ x, x = (ma_193_99 N m2) := ⟨_, rfl⟩
      obtain ⟨M, h, hM, es⟩ := qa_c1 (y := 193) (as := [.ref 99]) (rest := []) (i := .invokevirtual 193) (q := 42) (qa_e rfl h) (Or.inl rfl) rfl rfl (by decide) rfl (fun r hc => mb_193_99 hN hM es hc)
      rw [← er3] at h es
      obtain ⟨lv, h, g, T⟩ := qa_istore (n := 5) (q := 44) (qa_e rfl h) rfl
      replace g0 := T _ _ g0 (by decide) (Or.inr rfl)
      replace g1 := T _ _ g1 (by decide) (Or.inr rfl)
      replace g2 := T _ _ g2 (by decide) (Or.inr rfl)
      replace g3 := T _ _ g3 (by decide) (Or.inr rfl)
      replace g4 := T _ _ g4 (by decide) (Or.inr rfl)
      have g5 := g
      clear g T
      replace h := qa_aload (n := 0) (q := 45) (qa_e rfl h) rfl g0
      replace h := qa_gr (b := 105) (j := 7) (q := 48) (qa_e rfl h) rfl hM rfl (by decide)
      replace h := qa_iload (n := 3) (q := 49) (qa_e rfl h) rfl g3
      replace h := qa_iload (n := 4) (q := 51) (qa_e rfl h) rfl g4
      obtain ⟨m4, em4⟩ : ∃ x, x = qa_u r3.2 105 s.1.toNatClampNeg (s.2.2.2 105 s.1.toNatClampNeg) := ⟨_, rfl⟩
      obtain ⟨M, h, hM, es⟩ := qa_iastore (jn := s.1.toNatClampNeg) (q := 52) (qa_e rfl h) rfl hM es rfl
      rw [← em4] at es
      replace h := qa_iload (n := 5) (q := 54) (qa_e rfl h) rfl g5
      replace h := qa_iload (n := 1) (q := 55) (qa_e rfl h) rfl g1
      obtain ⟨lv, M, h, hM, es, g0, g1, g3, g5⟩ : ∃ lv M, q4_run f 229 63 lv [.int ((if r3.1 < s.2.1 then s.1 else s.2.2.1))] M 0 0 = some r ∧ qa_O M ∧ qa_s M = m4 ∧ q4_get lv 0 = some (.ref 99) ∧ q4_get lv 1 = some (.int (s.2.1)) ∧ q4_get lv 3 = some (.int (s.1)) ∧ q4_get lv 5 = some (.int (r3.1)) := by
        by_cases c5 : r3.1 < s.2.1
        · replace h := qa_iff (q := 58) (qa_e rfl h) rfl (qa_F_ge c5)
          replace h := qa_iload (n := 3) (q := 59) (qa_e rfl h) rfl g3
          replace h := qa_goto (q := 63) (qa_e rfl h) rfl
          exact ⟨lv, M, (qa_hi1 c5 h), hM, es, g0, g1, g3, g5⟩
        · replace h := qa_ift (q := 62) (qa_e rfl h) rfl (qa_T_ge c5)
          replace h := qa_iload (n := 2) (q := 63) (qa_e rfl h) rfl g2
          exact ⟨lv, M, (qa_hi0 c5 h), hM, es, g0, g1, g3, g5⟩
      obtain ⟨lv, h, g, T⟩ := qa_istore (n := 2) (q := 64) (qa_e rfl h) rfl
      replace g0 := T _ _ g0 (by decide) (Or.inr rfl)
      replace g1 := T _ _ g1 (by decide) (Or.inr rfl)
      replace g3 := T _ _ g3 (by decide) (Or.inr rfl)
      replace g5 := T _ _ g5 (by decide) (Or.inr rfl)
      have g2 := g
      clear g T
      replace h := qa_iload (n := 5) (q := 66) (qa_e rfl h) rfl g5
      replace h := qa_iload (n := 1) (q := 67) (qa_e rfl h) rfl g1
      obtain ⟨lv, M, h, hM, es, g0, g2, g3⟩ : ∃ lv M, q4_run f 229 76 lv [.int ((if r3.1 < s.2.1 then r3.1 else s.2.1))] M 0 0 = some r ∧ qa_O M ∧ qa_s M = m4 ∧ q4_get lv 0 = some (.ref 99) ∧ q4_get lv 2 = some (.int ((if r3.1 < s.2.1 then s.1 else s.2.2.1))) ∧ q4_get lv 3 = some (.int (s.1)) := by
        by_cases c6 : r3.1 < s.2.1
        · replace h := qa_iff (q := 70) (qa_e rfl h) rfl (qa_F_ge c6)
          replace h := qa_iload (n := 5) (q := 72) (qa_e rfl h) rfl g5
          replace h := qa_goto (q := 76) (qa_e rfl h) rfl
          exact ⟨lv, M, (qa_hi1 c6 h), hM, es, g0, g2, g3⟩
        · replace h := qa_ift (q := 75) (qa_e rfl h) rfl (qa_T_ge c6)
          replace h := qa_iload (n := 1) (q := 76) (qa_e rfl h) rfl g1
          exact ⟨lv, M, (qa_hi0 c6 h), hM, es, g0, g2, g3⟩
      obtain ⟨lv, h, g, T⟩ := qa_istore (n := 1) (q := 77) (qa_e rfl h) rfl
      replace g0 := T _ _ g0 (by decide) (Or.inr rfl)
      replace g2 := T _ _ g2 (by decide) (Or.inr rfl)
      replace g3 := T _ _ g3 (by decide) (Or.inr rfl)
      have g1 := g
      clear g T
      obtain ⟨lv, h, g, T⟩ := qa_iinc (n := 3) (z := (1 : Int32)) (q := 80) (qa_e rfl h) rfl (by decide) g3
      replace g0 := T _ _ g0 (by decide) (Or.inr rfl)
      replace g1 := T _ _ g1 (by decide) (Or.inr rfl)
      replace g2 := T _ _ g2 (by decide) (Or.inr rfl)
      replace g3 := g
      clear g T
      replace h := qa_goto (q := 15) (qa_e rfl h) rfl
      have e0 : mc_229_99_p15 N s = .inl ((s.1 + (1 : Int32)), (if r3.1 < s.2.1 then r3.1 else s.2.1), (if r3.1 < s.2.1 then s.1 else s.2.2.1), m4) := by exact Eq.trans (if_pos c1) (Eq.trans (qa_ie em2) (Eq.trans (qa_ie er3) (Eq.trans (qa_ie em4) (rfl))))
      rw [qa_whl e0]
      exact ih n hn (Nat.le_of_succ_le hF) ((s.1 + (1 : Int32)), (if r3.1 < s.2.1 then r3.1 else s.2.1), (if r3.1 < s.2.1 then s.1 else s.2.2.1), m4) _ _ hM es g0 g1 g2 g3 h
    · replace h := qa_ift (q := 83) (qa_e rfl h) rfl (qa_T_ge c1)
      have e0 : mc_229_99_p15 N s = .inr (s.1, s.2.1, s.2.2.1, s.2.2.2) := by exact Eq.trans (if_neg c1) (rfl)
      rw [qa_whr e0]
      exact ⟨_, _, q61_mono f F _ _ _ _ _ _ _ _ (Nat.le_of_succ_le hF) h, hM, es, g2⟩
/-- BuriedBySevensModel, sharper, ()I -/
noncomputable def ma_229_99 (N : Nat) (σ : qa_S) : Int32 × qa_S :=
  qa_in (qa_u σ 99 9 (0 : Int32)) fun m1 =>
  qa_in ((ma_193_99 N m1)) fun r2 =>
  qa_in ((qa_wh (fun s => s) (mc_229_99_p15 N) N ((0 : Int32), r2.1, (-9 : Int32), r2.2))) fun r3 =>
  (r3.2.2.1, r3.2.2.2)
theorem mb_229_99 {f N : Nat} (hN : f ≤ N) {M : q4_M} {r : Option Value × q4_M} {σ : qa_S} (hM : qa_O M) (es : qa_s M = σ) (h : q4_run f 229 0 (lv_args 0 [.ref 99]) [] M 0 0 = some r) : r.1 = some (.int ((ma_229_99 N σ).1)) ∧ qa_O r.2 ∧ qa_s r.2 = (ma_229_99 N σ).2 := by
  obtain ⟨lv, el⟩ : ∃ l, l = lv_args 0 [.ref 99] := ⟨_, rfl⟩
  have g0 : q4_get lv 0 = some (.ref 99) := by rw [el]; rfl
  rw [← el] at h
  clear el
  replace h := qa_aload (n := 0) (q := 1) (qa_e rfl h) rfl g0
  replace h := qa_push (z := (0 : Int32)) (q := 2) (qa_e rfl h) rfl (by decide)
  obtain ⟨m1, em1⟩ : ∃ x, x = qa_u σ 99 9 (0 : Int32) := ⟨_, rfl⟩
  obtain ⟨M, h, hM, es⟩ := qa_pf (j := 9) (q := 5) (qa_e rfl h) rfl hM es rfl (by decide)
  rw [← em1] at es
  replace h := qa_aload (n := 0) (q := 6) (qa_e rfl h) rfl g0
  obtain ⟨r2, er2⟩ : ∃ x, x = (ma_193_99 N m1) := ⟨_, rfl⟩
  obtain ⟨M, h, hM, es⟩ := qa_c1 (y := 193) (as := [.ref 99]) (rest := []) (i := .invokevirtual 193) (q := 9) (qa_e rfl h) (Or.inl rfl) rfl rfl (by decide) rfl (fun r hc => mb_193_99 hN hM es hc)
  rw [← er2] at h es
  obtain ⟨lv, h, g, T⟩ := qa_istore (n := 1) (q := 10) (qa_e rfl h) rfl
  replace g0 := T _ _ g0 (by decide) (Or.inr rfl)
  have g1 := g
  clear g T
  replace h := qa_push (z := (-9 : Int32)) (q := 12) (qa_e rfl h) rfl (by decide)
  obtain ⟨lv, h, g, T⟩ := qa_istore (n := 2) (q := 13) (qa_e rfl h) rfl
  replace g0 := T _ _ g0 (by decide) (Or.inr rfl)
  replace g1 := T _ _ g1 (by decide) (Or.inr rfl)
  have g2 := g
  clear g T
  replace h := qa_push (z := (0 : Int32)) (q := 14) (qa_e rfl h) rfl (by decide)
  obtain ⟨lv, h, g, T⟩ := qa_istore (n := 3) (q := 15) (qa_e rfl h) rfl
  replace g0 := T _ _ g0 (by decide) (Or.inr rfl)
  replace g1 := T _ _ g1 (by decide) (Or.inr rfl)
  replace g2 := T _ _ g2 (by decide) (Or.inr rfl)
  have g3 := g
  clear g T
  obtain ⟨r3, er3⟩ : ∃ x, x = (qa_wh (fun s => s) (mc_229_99_p15 N) N ((0 : Int32), r2.1, (-9 : Int32), r2.2)) := ⟨_, rfl⟩
  have L := md_229_99_p15 (F := f) (N := N) (r := r) hN f N hN (Nat.le_refl f) ((0 : Int32), r2.1, (-9 : Int32), r2.2) _ _ hM es g0 g1 g2 g3 h
  rw [← er3] at L
  obtain ⟨lv, M, h, hM, es, g2⟩ := L
  replace h := qa_iload (n := 2) (q := 84) (qa_e rfl h) rfl g2
  have er := qa_ri (qa_e rfl h)
  subst er
  have e0 : ma_229_99 N σ = (r3.2.2.1, r3.2.2.2) := by exact Eq.trans (qa_ie em1) (Eq.trans (qa_ie er2) (Eq.trans (qa_ie er3) (rfl)))
  rw [e0]
  exact ⟨rfl, hM, es⟩
noncomputable def mc_230_99_p15 (N : Nat) (s : Int32 × Int32 × Int32 × qa_S) : (Int32 × Int32 × Int32 × qa_S) ⊕ (Int32 × Int32 × Int32 × qa_S) :=
  if s.1 < (s.2.2.2 99 0) then
    qa_in (qa_u s.2.2.2 103 s.1.toNatClampNeg ((s.2.2.2 103 s.1.toNatClampNeg) + (1 : Int32))) fun m3 =>
    qa_in ((ma_193_99 N m3)) fun r4 =>
    qa_in (qa_u r4.2 103 s.1.toNatClampNeg ((r4.2 103 s.1.toNatClampNeg) - (1 : Int32))) fun m5 =>
    qa_in ((if (s.2.2.2 103 s.1.toNatClampNeg) < (9 : Int32) then m5 else s.2.2.2)) fun m8 =>
    .inl ((s.1 + (1 : Int32)), (if (s.2.2.2 103 s.1.toNatClampNeg) < (9 : Int32) then (if r4.1 < s.2.1 then r4.1 else s.2.1) else s.2.1), (if (s.2.2.2 103 s.1.toNatClampNeg) < (9 : Int32) then (if r4.1 < s.2.1 then s.1 else s.2.2.1) else s.2.2.1), m8)
  else
    .inr (s.1, s.2.1, s.2.2.1, s.2.2.2)
theorem md_230_99_p15 {N F : Nat} {r : Option Value × q4_M} (hN : F ≤ N) : ∀ f n, f ≤ n → f ≤ F → ∀ (s : Int32 × Int32 × Int32 × qa_S) (lv : List (Nat × Value)) (M : q4_M), qa_O M → qa_s M = s.2.2.2 → q4_get lv 0 = some (.ref 99) → q4_get lv 1 = some (.int (s.2.1)) → q4_get lv 2 = some (.int (s.2.2.1)) → q4_get lv 3 = some (.int (s.1)) → q4_run f 230 15 lv [] M 0 0 = some r → ∃ lv M, q4_run F 230 91 lv [] M 0 0 = some r ∧ qa_O M ∧ qa_s M = (qa_wh (fun s => s) (mc_230_99_p15 N) n s).2.2.2 ∧ q4_get lv 2 = some (.int ((qa_wh (fun s => s) (mc_230_99_p15 N) n s).2.2.1)) := by
  intro f
  induction f with
  | zero => intro n _ _ s lv M hM es _ _ _ _ h; cases h
  | succ f ih =>
    intro n hn hF s lv M hM es g0 g1 g2 g3 h
    obtain ⟨n, rfl⟩ : ∃ n1, n = n1 + 1 := ⟨n - 1, by omega⟩
    replace hn : f ≤ n := Nat.le_of_succ_le_succ hn
    have hN := Nat.le_trans (Nat.le_of_succ_le hF) hN
    replace h := qa_iload (n := 3) (q := 16) (qa_d rfl h) rfl g3
    replace h := qa_aload (n := 0) (q := 17) (qa_e rfl h) rfl g0
    replace h := qa_gi (j := 0) (q := 20) (qa_e rfl h) rfl hM es rfl (by decide)
    by_cases c1 : s.1 < (s.2.2.2 99 0)
    · replace h := qa_iff (q := 23) (qa_e rfl h) rfl (qa_F_ge c1)
      replace h := qa_aload (n := 0) (q := 24) (qa_e rfl h) rfl g0
      replace h := qa_gr (b := 103) (j := 4) (q := 27) (qa_e rfl h) rfl hM rfl (by decide)
      replace h := qa_iload (n := 3) (q := 28) (qa_e rfl h) rfl g3
      replace h := qa_iaload (jn := s.1.toNatClampNeg) (q := 29) (qa_e rfl h) rfl hM es rfl
      replace h := qa_push (z := (9 : Int32)) (q := 31) (qa_e rfl h) rfl (by decide)
      obtain ⟨m3, em3⟩ : ∃ x, x = qa_u s.2.2.2 103 s.1.toNatClampNeg ((s.2.2.2 103 s.1.toNatClampNeg) + (1 : Int32)) := ⟨_, rfl⟩
      obtain ⟨r4, er4⟩ : ∃ x, x = (ma_193_99 N m3) := ⟨_, rfl⟩
      obtain ⟨m5, em5⟩ : ∃ x, x = qa_u r4.2 103 s.1.toNatClampNeg ((r4.2 103 s.1.toNatClampNeg) - (1 : Int32)) := ⟨_, rfl⟩
      obtain ⟨m8, em8⟩ : ∃ x, x = (if (s.2.2.2 103 s.1.toNatClampNeg) < (9 : Int32) then m5 else s.2.2.2) := ⟨_, rfl⟩
      obtain ⟨lv, M, h, hM, es, g0, g1, g2, g3⟩ : ∃ lv M, q4_run f 230 85 lv [] M 0 0 = some r ∧ qa_O M ∧ qa_s M = m8 ∧ q4_get lv 0 = some (.ref 99) ∧ q4_get lv 1 = some (.int ((if (s.2.2.2 103 s.1.toNatClampNeg) < (9 : Int32) then (if r4.1 < s.2.1 then r4.1 else s.2.1) else s.2.1))) ∧ q4_get lv 2 = some (.int ((if (s.2.2.2 103 s.1.toNatClampNeg) < (9 : Int32) then (if r4.1 < s.2.1 then s.1 else s.2.2.1) else s.2.2.1))) ∧ q4_get lv 3 = some (.int (s.1)) := by
        by_cases c2 : (s.2.2.2 103 s.1.toNatClampNeg) < (9 : Int32)
        · replace h := qa_iff (q := 34) (qa_e rfl h) rfl (qa_F_ge c2)
          replace h := qa_aload (n := 0) (q := 35) (qa_e rfl h) rfl g0
          replace h := qa_gr (b := 103) (j := 4) (q := 38) (qa_e rfl h) rfl hM rfl (by decide)
          replace h := qa_iload (n := 3) (q := 39) (qa_e rfl h) rfl g3
          replace h := qa_dup2 (q := 40) (qa_e rfl h) rfl
          replace h := qa_iaload (jn := s.1.toNatClampNeg) (q := 41) (qa_e rfl h) rfl hM es rfl
          replace h := qa_push (z := (1 : Int32)) (q := 42) (qa_e rfl h) rfl (by decide)
          replace h := qa_iadd (q := 43) (qa_e rfl h) rfl
          obtain ⟨M, h, hM, es⟩ := qa_iastore (jn := s.1.toNatClampNeg) (q := 44) (qa_e rfl h) rfl hM es rfl
          rw [← em3] at es
          replace h := qa_aload (n := 0) (q := 45) (qa_e rfl h) rfl g0
          obtain ⟨M, h, hM, es⟩ := qa_c1 (y := 193) (as := [.ref 99]) (rest := []) (i := .invokevirtual 193) (q := 48) (qa_e rfl h) (Or.inl rfl) rfl rfl (by decide) rfl (fun r hc => mb_193_99 hN hM es hc)
          rw [← er4] at h es
          obtain ⟨lv, h, g, T⟩ := qa_istore (n := 4) (q := 50) (qa_e rfl h) rfl
          replace g0 := T _ _ g0 (by decide) (Or.inr rfl)
          replace g1 := T _ _ g1 (by decide) (Or.inr rfl)
          replace g2 := T _ _ g2 (by decide) (Or.inr rfl)
          replace g3 := T _ _ g3 (by decide) (Or.inr rfl)
          have g4 := g
          clear g T
          replace h := qa_aload (n := 0) (q := 51) (qa_e rfl h) rfl g0
          replace h := qa_gr (b := 103) (j := 4) (q := 54) (qa_e rfl h) rfl hM rfl (by decide)
          replace h := qa_iload (n := 3) (q := 55) (qa_e rfl h) rfl g3
          replace h := qa_dup2 (q := 56) (qa_e rfl h) rfl
          replace h := qa_iaload (jn := s.1.toNatClampNeg) (q := 57) (qa_e rfl h) rfl hM es rfl
          replace h := qa_push (z := (1 : Int32)) (q := 58) (qa_e rfl h) rfl (by decide)
          replace h := qa_isub (q := 59) (qa_e rfl h) rfl
          obtain ⟨M, h, hM, es⟩ := qa_iastore (jn := s.1.toNatClampNeg) (q := 60) (qa_e rfl h) rfl hM es rfl
          rw [← em5] at es
          replace h := qa_iload (n := 4) (q := 62) (qa_e rfl h) rfl g4
          replace h := qa_iload (n := 1) (q := 63) (qa_e rfl h) rfl g1
          obtain ⟨lv, M, h, hM, es, g0, g1, g3, g4⟩ : ∃ lv M, q4_run f 230 71 lv [.int ((if r4.1 < s.2.1 then s.1 else s.2.2.1))] M 0 0 = some r ∧ qa_O M ∧ qa_s M = m5 ∧ q4_get lv 0 = some (.ref 99) ∧ q4_get lv 1 = some (.int (s.2.1)) ∧ q4_get lv 3 = some (.int (s.1)) ∧ q4_get lv 4 = some (.int (r4.1)) := by
            by_cases c6 : r4.1 < s.2.1
            · replace h := qa_iff (q := 66) (qa_e rfl h) rfl (qa_F_ge c6)
              replace h := qa_iload (n := 3) (q := 67) (qa_e rfl h) rfl g3
              replace h := qa_goto (q := 71) (qa_e rfl h) rfl
              exact ⟨lv, M, (qa_hi1 c6 h), hM, es, g0, g1, g3, g4⟩
            · replace h := qa_ift (q := 70) (qa_e rfl h) rfl (qa_T_ge c6)
              replace h := qa_iload (n := 2) (q := 71) (qa_e rfl h) rfl g2
              exact ⟨lv, M, (qa_hi0 c6 h), hM, es, g0, g1, g3, g4⟩
          obtain ⟨lv, h, g, T⟩ := qa_istore (n := 2) (q := 72) (qa_e rfl h) rfl
          replace g0 := T _ _ g0 (by decide) (Or.inr rfl)
          replace g1 := T _ _ g1 (by decide) (Or.inr rfl)
          replace g3 := T _ _ g3 (by decide) (Or.inr rfl)
          replace g4 := T _ _ g4 (by decide) (Or.inr rfl)
          have g2 := g
          clear g T
          replace h := qa_iload (n := 4) (q := 74) (qa_e rfl h) rfl g4
          replace h := qa_iload (n := 1) (q := 75) (qa_e rfl h) rfl g1
          obtain ⟨lv, M, h, hM, es, g0, g2, g3⟩ : ∃ lv M, q4_run f 230 84 lv [.int ((if r4.1 < s.2.1 then r4.1 else s.2.1))] M 0 0 = some r ∧ qa_O M ∧ qa_s M = m5 ∧ q4_get lv 0 = some (.ref 99) ∧ q4_get lv 2 = some (.int ((if r4.1 < s.2.1 then s.1 else s.2.2.1))) ∧ q4_get lv 3 = some (.int (s.1)) := by
            by_cases c7 : r4.1 < s.2.1
            · replace h := qa_iff (q := 78) (qa_e rfl h) rfl (qa_F_ge c7)
              replace h := qa_iload (n := 4) (q := 80) (qa_e rfl h) rfl g4
              replace h := qa_goto (q := 84) (qa_e rfl h) rfl
              exact ⟨lv, M, (qa_hi1 c7 h), hM, es, g0, g2, g3⟩
            · replace h := qa_ift (q := 83) (qa_e rfl h) rfl (qa_T_ge c7)
              replace h := qa_iload (n := 1) (q := 84) (qa_e rfl h) rfl g1
              exact ⟨lv, M, (qa_hi0 c7 h), hM, es, g0, g2, g3⟩
          obtain ⟨lv, h, g, T⟩ := qa_istore (n := 1) (q := 85) (qa_e rfl h) rfl
          replace g0 := T _ _ g0 (by decide) (Or.inr rfl)
          replace g2 := T _ _ g2 (by decide) (Or.inr rfl)
          replace g3 := T _ _ g3 (by decide) (Or.inr rfl)
          have g1 := g
          clear g T
          exact ⟨lv, M, h, hM, ((qa_ms1 c2 es).trans em8.symm), g0, (qa_gi1 c2 g1), (qa_gi1 c2 g2), g3⟩
        · replace h := qa_ift (q := 85) (qa_e rfl h) rfl (qa_T_ge c2)
          exact ⟨lv, M, h, hM, ((qa_ms0 c2 es).trans em8.symm), g0, (qa_gi0 c2 g1), (qa_gi0 c2 g2), g3⟩
      obtain ⟨lv, h, g, T⟩ := qa_iinc (n := 3) (z := (1 : Int32)) (q := 88) (qa_e rfl h) rfl (by decide) g3
      replace g0 := T _ _ g0 (by decide) (Or.inr rfl)
      replace g1 := T _ _ g1 (by decide) (Or.inr rfl)
      replace g2 := T _ _ g2 (by decide) (Or.inr rfl)
      replace g3 := g
      clear g T
      replace h := qa_goto (q := 15) (qa_e rfl h) rfl
      have e0 : mc_230_99_p15 N s = .inl ((s.1 + (1 : Int32)), (if (s.2.2.2 103 s.1.toNatClampNeg) < (9 : Int32) then (if r4.1 < s.2.1 then r4.1 else s.2.1) else s.2.1), (if (s.2.2.2 103 s.1.toNatClampNeg) < (9 : Int32) then (if r4.1 < s.2.1 then s.1 else s.2.2.1) else s.2.2.1), m8) := by exact Eq.trans (if_pos c1) (Eq.trans (qa_ie em3) (Eq.trans (qa_ie er4) (Eq.trans (qa_ie em5) (Eq.trans (qa_ie em8) (rfl)))))
      rw [qa_whl e0]
      exact ih n hn (Nat.le_of_succ_le hF) ((s.1 + (1 : Int32)), (if (s.2.2.2 103 s.1.toNatClampNeg) < (9 : Int32) then (if r4.1 < s.2.1 then r4.1 else s.2.1) else s.2.1), (if (s.2.2.2 103 s.1.toNatClampNeg) < (9 : Int32) then (if r4.1 < s.2.1 then s.1 else s.2.2.1) else s.2.2.1), m8) _ _ hM es g0 g1 g2 g3 h
    · replace h := qa_ift (q := 91) (qa_e rfl h) rfl (qa_T_ge c1)
      have e0 : mc_230_99_p15 N s = .inr (s.1, s.2.1, s.2.2.1, s.2.2.2) := by exact Eq.trans (if_neg c1) (rfl)
      rw [qa_whr e0]
      exact ⟨_, _, q61_mono f F _ _ _ _ _ _ _ _ (Nat.le_of_succ_le hF) h, hM, es, g2⟩
/-- BuriedBySevensModel, more, ()I -/
noncomputable def ma_230_99 (N : Nat) (σ : qa_S) : Int32 × qa_S :=
  qa_in (qa_u σ 99 9 (0 : Int32)) fun m1 =>
  qa_in ((ma_193_99 N m1)) fun r2 =>
  qa_in ((qa_wh (fun s => s) (mc_230_99_p15 N) N ((0 : Int32), r2.1, (-9 : Int32), r2.2))) fun r3 =>
  (r3.2.2.1, r3.2.2.2)
theorem mb_230_99 {f N : Nat} (hN : f ≤ N) {M : q4_M} {r : Option Value × q4_M} {σ : qa_S} (hM : qa_O M) (es : qa_s M = σ) (h : q4_run f 230 0 (lv_args 0 [.ref 99]) [] M 0 0 = some r) : r.1 = some (.int ((ma_230_99 N σ).1)) ∧ qa_O r.2 ∧ qa_s r.2 = (ma_230_99 N σ).2 := by
  obtain ⟨lv, el⟩ : ∃ l, l = lv_args 0 [.ref 99] := ⟨_, rfl⟩
  have g0 : q4_get lv 0 = some (.ref 99) := by rw [el]; rfl
  rw [← el] at h
  clear el
  replace h := qa_aload (n := 0) (q := 1) (qa_e rfl h) rfl g0
  replace h := qa_push (z := (0 : Int32)) (q := 2) (qa_e rfl h) rfl (by decide)
  obtain ⟨m1, em1⟩ : ∃ x, x = qa_u σ 99 9 (0 : Int32) := ⟨_, rfl⟩
  obtain ⟨M, h, hM, es⟩ := qa_pf (j := 9) (q := 5) (qa_e rfl h) rfl hM es rfl (by decide)
  rw [← em1] at es
  replace h := qa_aload (n := 0) (q := 6) (qa_e rfl h) rfl g0
  obtain ⟨r2, er2⟩ : ∃ x, x = (ma_193_99 N m1) := ⟨_, rfl⟩
  obtain ⟨M, h, hM, es⟩ := qa_c1 (y := 193) (as := [.ref 99]) (rest := []) (i := .invokevirtual 193) (q := 9) (qa_e rfl h) (Or.inl rfl) rfl rfl (by decide) rfl (fun r hc => mb_193_99 hN hM es hc)
  rw [← er2] at h es
  obtain ⟨lv, h, g, T⟩ := qa_istore (n := 1) (q := 10) (qa_e rfl h) rfl
  replace g0 := T _ _ g0 (by decide) (Or.inr rfl)
  have g1 := g
  clear g T
  replace h := qa_push (z := (-9 : Int32)) (q := 12) (qa_e rfl h) rfl (by decide)
  obtain ⟨lv, h, g, T⟩ := qa_istore (n := 2) (q := 13) (qa_e rfl h) rfl
  replace g0 := T _ _ g0 (by decide) (Or.inr rfl)
  replace g1 := T _ _ g1 (by decide) (Or.inr rfl)
  have g2 := g
  clear g T
  replace h := qa_push (z := (0 : Int32)) (q := 14) (qa_e rfl h) rfl (by decide)
  obtain ⟨lv, h, g, T⟩ := qa_istore (n := 3) (q := 15) (qa_e rfl h) rfl
  replace g0 := T _ _ g0 (by decide) (Or.inr rfl)
  replace g1 := T _ _ g1 (by decide) (Or.inr rfl)
  replace g2 := T _ _ g2 (by decide) (Or.inr rfl)
  have g3 := g
  clear g T
  obtain ⟨r3, er3⟩ : ∃ x, x = (qa_wh (fun s => s) (mc_230_99_p15 N) N ((0 : Int32), r2.1, (-9 : Int32), r2.2)) := ⟨_, rfl⟩
  have L := md_230_99_p15 (F := f) (N := N) (r := r) hN f N hN (Nat.le_refl f) ((0 : Int32), r2.1, (-9 : Int32), r2.2) _ _ hM es g0 g1 g2 g3 h
  rw [← er3] at L
  obtain ⟨lv, M, h, hM, es, g2⟩ := L
  replace h := qa_iload (n := 2) (q := 92) (qa_e rfl h) rfl g2
  have er := qa_ri (qa_e rfl h)
  subst er
  have e0 : ma_230_99 N σ = (r3.2.2.1, r3.2.2.2) := by exact Eq.trans (qa_ie em1) (Eq.trans (qa_ie er2) (Eq.trans (qa_ie er3) (rfl)))
  rw [e0]
  exact ⟨rfl, hM, es⟩
noncomputable def mc_231_99_p30 (N : Nat) (l1 : Int32) (σ : qa_S) (s : Int32 × Int32 × Int32) : (Int32 × Int32 × Int32) ⊕ (Int32 × Int32 × Int32) :=
  if s.1 < (σ 99 0) then
    .inl ((s.1 + (1 : Int32)), (if (σ 108 (((4 : Int32) * s.1) + l1).toNatClampNeg) < s.2.1 then (σ 108 (((4 : Int32) * s.1) + l1).toNatClampNeg) else s.2.1), (if s.2.2 < (σ 108 (((4 : Int32) * s.1) + l1).toNatClampNeg) then (σ 108 (((4 : Int32) * s.1) + l1).toNatClampNeg) else s.2.2))
  else
    .inr (s.1, s.2.1, s.2.2)
theorem md_231_99_p30 {N F : Nat} {r : Option Value × q4_M} {l1 : Int32} {σ : qa_S} (hN : F ≤ N) : ∀ f n, f ≤ n → f ≤ F → ∀ (s : Int32 × Int32 × Int32) (lv : List (Nat × Value)) (M : q4_M), qa_O M → qa_s M = σ → q4_get lv 0 = some (.ref 99) → q4_get lv 1 = some (.int (l1)) → q4_get lv 2 = some (.int (s.2.1)) → q4_get lv 3 = some (.int (s.2.2)) → q4_get lv 4 = some (.int (s.1)) → q4_run f 231 30 lv [] M 0 0 = some r → ∃ lv M, q4_run F 231 107 lv [] M 0 0 = some r ∧ qa_O M ∧ qa_s M = σ ∧ q4_get lv 0 = some (.ref 99) ∧ q4_get lv 2 = some (.int ((qa_wh (fun s => s) (mc_231_99_p30 N l1 σ) n s).2.1)) ∧ q4_get lv 3 = some (.int ((qa_wh (fun s => s) (mc_231_99_p30 N l1 σ) n s).2.2)) := by
  intro f
  induction f with
  | zero => intro n _ _ s lv M hM es _ _ _ _ _ h; cases h
  | succ f ih =>
    intro n hn hF s lv M hM es g0 g1 g2 g3 g4 h
    obtain ⟨n, rfl⟩ : ∃ n1, n = n1 + 1 := ⟨n - 1, by omega⟩
    replace hn : f ≤ n := Nat.le_of_succ_le_succ hn
    have hN := Nat.le_trans (Nat.le_of_succ_le hF) hN
    replace h := qa_iload (n := 4) (q := 32) (qa_d rfl h) rfl g4
    replace h := qa_aload (n := 0) (q := 33) (qa_e rfl h) rfl g0
    replace h := qa_gi (j := 0) (q := 36) (qa_e rfl h) rfl hM es rfl (by decide)
    by_cases c1 : s.1 < (σ 99 0)
    · replace h := qa_iff (q := 39) (qa_e rfl h) rfl (qa_F_ge c1)
      replace h := qa_aload (n := 0) (q := 40) (qa_e rfl h) rfl g0
      replace h := qa_gr (b := 108) (j := 11) (q := 43) (qa_e rfl h) rfl hM rfl (by decide)
      replace h := qa_push (z := (4 : Int32)) (q := 44) (qa_e rfl h) rfl (by decide)
      replace h := qa_iload (n := 4) (q := 46) (qa_e rfl h) rfl g4
      replace h := qa_imul (q := 47) (qa_e rfl h) rfl
      replace h := qa_iload (n := 1) (q := 48) (qa_e rfl h) rfl g1
      replace h := qa_iadd (q := 49) (qa_e rfl h) rfl
      replace h := qa_iaload (jn := (((4 : Int32) * s.1) + l1).toNatClampNeg) (q := 50) (qa_e rfl h) rfl hM es rfl
      replace h := qa_iload (n := 2) (q := 51) (qa_e rfl h) rfl g2
      obtain ⟨lv, M, h, hM, es, g0, g1, g3, g4⟩ : ∃ lv M, q4_run f 231 69 lv [.int ((if (σ 108 (((4 : Int32) * s.1) + l1).toNatClampNeg) < s.2.1 then (σ 108 (((4 : Int32) * s.1) + l1).toNatClampNeg) else s.2.1))] M 0 0 = some r ∧ qa_O M ∧ qa_s M = σ ∧ q4_get lv 0 = some (.ref 99) ∧ q4_get lv 1 = some (.int (l1)) ∧ q4_get lv 3 = some (.int (s.2.2)) ∧ q4_get lv 4 = some (.int (s.1)) := by
        by_cases c2 : (σ 108 (((4 : Int32) * s.1) + l1).toNatClampNeg) < s.2.1
        · replace h := qa_iff (q := 54) (qa_e rfl h) rfl (qa_F_ge c2)
          replace h := qa_aload (n := 0) (q := 55) (qa_e rfl h) rfl g0
          replace h := qa_gr (b := 108) (j := 11) (q := 58) (qa_e rfl h) rfl hM rfl (by decide)
          replace h := qa_push (z := (4 : Int32)) (q := 59) (qa_e rfl h) rfl (by decide)
          replace h := qa_iload (n := 4) (q := 61) (qa_e rfl h) rfl g4
          replace h := qa_imul (q := 62) (qa_e rfl h) rfl
          replace h := qa_iload (n := 1) (q := 63) (qa_e rfl h) rfl g1
          replace h := qa_iadd (q := 64) (qa_e rfl h) rfl
          replace h := qa_iaload (jn := (((4 : Int32) * s.1) + l1).toNatClampNeg) (q := 65) (qa_e rfl h) rfl hM es rfl
          replace h := qa_goto (q := 69) (qa_e rfl h) rfl
          exact ⟨lv, M, (qa_hi1 c2 h), hM, es, g0, g1, g3, g4⟩
        · replace h := qa_ift (q := 68) (qa_e rfl h) rfl (qa_T_ge c2)
          replace h := qa_iload (n := 2) (q := 69) (qa_e rfl h) rfl g2
          exact ⟨lv, M, (qa_hi0 c2 h), hM, es, g0, g1, g3, g4⟩
      obtain ⟨lv, h, g, T⟩ := qa_istore (n := 2) (q := 70) (qa_e rfl h) rfl
      replace g0 := T _ _ g0 (by decide) (Or.inr rfl)
      replace g1 := T _ _ g1 (by decide) (Or.inr rfl)
      replace g3 := T _ _ g3 (by decide) (Or.inr rfl)
      replace g4 := T _ _ g4 (by decide) (Or.inr rfl)
      have g2 := g
      clear g T
      replace h := qa_aload (n := 0) (q := 71) (qa_e rfl h) rfl g0
      replace h := qa_gr (b := 108) (j := 11) (q := 74) (qa_e rfl h) rfl hM rfl (by decide)
      replace h := qa_push (z := (4 : Int32)) (q := 75) (qa_e rfl h) rfl (by decide)
      replace h := qa_iload (n := 4) (q := 77) (qa_e rfl h) rfl g4
      replace h := qa_imul (q := 78) (qa_e rfl h) rfl
      replace h := qa_iload (n := 1) (q := 79) (qa_e rfl h) rfl g1
      replace h := qa_iadd (q := 80) (qa_e rfl h) rfl
      replace h := qa_iaload (jn := (((4 : Int32) * s.1) + l1).toNatClampNeg) (q := 81) (qa_e rfl h) rfl hM es rfl
      replace h := qa_iload (n := 3) (q := 82) (qa_e rfl h) rfl g3
      obtain ⟨lv, M, h, hM, es, g0, g1, g2, g4⟩ : ∃ lv M, q4_run f 231 100 lv [.int ((if s.2.2 < (σ 108 (((4 : Int32) * s.1) + l1).toNatClampNeg) then (σ 108 (((4 : Int32) * s.1) + l1).toNatClampNeg) else s.2.2))] M 0 0 = some r ∧ qa_O M ∧ qa_s M = σ ∧ q4_get lv 0 = some (.ref 99) ∧ q4_get lv 1 = some (.int (l1)) ∧ q4_get lv 2 = some (.int ((if (σ 108 (((4 : Int32) * s.1) + l1).toNatClampNeg) < s.2.1 then (σ 108 (((4 : Int32) * s.1) + l1).toNatClampNeg) else s.2.1))) ∧ q4_get lv 4 = some (.int (s.1)) := by
        by_cases c3 : s.2.2 < (σ 108 (((4 : Int32) * s.1) + l1).toNatClampNeg)
        · replace h := qa_iff (q := 85) (qa_e rfl h) rfl (qa_F_le c3)
          replace h := qa_aload (n := 0) (q := 86) (qa_e rfl h) rfl g0
          replace h := qa_gr (b := 108) (j := 11) (q := 89) (qa_e rfl h) rfl hM rfl (by decide)
          replace h := qa_push (z := (4 : Int32)) (q := 90) (qa_e rfl h) rfl (by decide)
          replace h := qa_iload (n := 4) (q := 92) (qa_e rfl h) rfl g4
          replace h := qa_imul (q := 93) (qa_e rfl h) rfl
          replace h := qa_iload (n := 1) (q := 94) (qa_e rfl h) rfl g1
          replace h := qa_iadd (q := 95) (qa_e rfl h) rfl
          replace h := qa_iaload (jn := (((4 : Int32) * s.1) + l1).toNatClampNeg) (q := 96) (qa_e rfl h) rfl hM es rfl
          replace h := qa_goto (q := 100) (qa_e rfl h) rfl
          exact ⟨lv, M, (qa_hi1 c3 h), hM, es, g0, g1, g2, g4⟩
        · replace h := qa_ift (q := 99) (qa_e rfl h) rfl (qa_T_le c3)
          replace h := qa_iload (n := 3) (q := 100) (qa_e rfl h) rfl g3
          exact ⟨lv, M, (qa_hi0 c3 h), hM, es, g0, g1, g2, g4⟩
      obtain ⟨lv, h, g, T⟩ := qa_istore (n := 3) (q := 101) (qa_e rfl h) rfl
      replace g0 := T _ _ g0 (by decide) (Or.inr rfl)
      replace g1 := T _ _ g1 (by decide) (Or.inr rfl)
      replace g2 := T _ _ g2 (by decide) (Or.inr rfl)
      replace g4 := T _ _ g4 (by decide) (Or.inr rfl)
      have g3 := g
      clear g T
      obtain ⟨lv, h, g, T⟩ := qa_iinc (n := 4) (z := (1 : Int32)) (q := 104) (qa_e rfl h) rfl (by decide) g4
      replace g0 := T _ _ g0 (by decide) (Or.inr rfl)
      replace g1 := T _ _ g1 (by decide) (Or.inr rfl)
      replace g2 := T _ _ g2 (by decide) (Or.inr rfl)
      replace g3 := T _ _ g3 (by decide) (Or.inr rfl)
      replace g4 := g
      clear g T
      replace h := qa_goto (q := 30) (qa_e rfl h) rfl
      have e0 : mc_231_99_p30 N l1 σ s = .inl ((s.1 + (1 : Int32)), (if (σ 108 (((4 : Int32) * s.1) + l1).toNatClampNeg) < s.2.1 then (σ 108 (((4 : Int32) * s.1) + l1).toNatClampNeg) else s.2.1), (if s.2.2 < (σ 108 (((4 : Int32) * s.1) + l1).toNatClampNeg) then (σ 108 (((4 : Int32) * s.1) + l1).toNatClampNeg) else s.2.2)) := by exact Eq.trans (if_pos c1) (rfl)
      rw [qa_whl e0]
      exact ih n hn (Nat.le_of_succ_le hF) ((s.1 + (1 : Int32)), (if (σ 108 (((4 : Int32) * s.1) + l1).toNatClampNeg) < s.2.1 then (σ 108 (((4 : Int32) * s.1) + l1).toNatClampNeg) else s.2.1), (if s.2.2 < (σ 108 (((4 : Int32) * s.1) + l1).toNatClampNeg) then (σ 108 (((4 : Int32) * s.1) + l1).toNatClampNeg) else s.2.2)) _ _ hM es g0 g1 g2 g3 g4 h
    · replace h := qa_ift (q := 107) (qa_e rfl h) rfl (qa_T_ge c1)
      have e0 : mc_231_99_p30 N l1 σ s = .inr (s.1, s.2.1, s.2.2) := by exact Eq.trans (if_neg c1) (rfl)
      rw [qa_whr e0]
      exact ⟨_, _, q61_mono f F _ _ _ _ _ _ _ _ (Nat.le_of_succ_le hF) h, hM, es, g0, g2, g3⟩
/-- BuriedBySevensModel, range, (I)I -/
noncomputable def ma_231_99 (N : Nat) (a1 : Int32) (σ : qa_S) : Int32 × qa_S :=
  qa_in (qa_u σ 99 9 (0 : Int32)) fun m1 =>
  if (ma_165 a1) = (0 : Int32) then
    qa_in ((ma_152_99 (-1 : Int32) m1)) fun r3 =>
    (r3.1, r3.2)
  else
    qa_in ((ma_181_99 N m1)) fun m4 =>
    qa_in ((qa_wh (fun s => s) (mc_231_99_p30 N a1 m4) N ((0 : Int32), (99 : Int32), (0 : Int32)))) fun r5 =>
    ((if (m4 99 0) = (0 : Int32) then (0 : Int32) else (r5.2.2 - r5.2.1)), m4)
theorem mb_231_99 {f N : Nat} (hN : f ≤ N) {M : q4_M} {r : Option Value × q4_M} {σ : qa_S} {a1 : Int32} (hM : qa_O M) (es : qa_s M = σ) (h : q4_run f 231 0 (lv_args 0 [.ref 99, .int (a1)]) [] M 0 0 = some r) : r.1 = some (.int ((ma_231_99 N a1 σ).1)) ∧ qa_O r.2 ∧ qa_s r.2 = (ma_231_99 N a1 σ).2 := by
  obtain ⟨lv, el⟩ : ∃ l, l = lv_args 0 [.ref 99, .int (a1)] := ⟨_, rfl⟩
  have g0 : q4_get lv 0 = some (.ref 99) := by rw [el]; rfl
  have g1 : q4_get lv 1 = some (.int (a1)) := by rw [el]; rfl
  rw [← el] at h
  clear el
  replace h := qa_aload (n := 0) (q := 1) (qa_e rfl h) rfl g0
  replace h := qa_push (z := (0 : Int32)) (q := 2) (qa_e rfl h) rfl (by decide)
  obtain ⟨m1, em1⟩ : ∃ x, x = qa_u σ 99 9 (0 : Int32) := ⟨_, rfl⟩
  obtain ⟨M, h, hM, es⟩ := qa_pf (j := 9) (q := 5) (qa_e rfl h) rfl hM es rfl (by decide)
  rw [← em1] at es
  replace h := qa_iload (n := 1) (q := 6) (qa_e rfl h) rfl g1
  obtain ⟨M, h, hM, es⟩ := qa_c1 (y := 165) (as := [.int (a1)]) (rest := []) (i := .invokestatic 165) (q := 9) (qa_e rfl h) (Or.inr rfl) rfl rfl (by decide) rfl (fun r hc => mb_165 hM es hc)
  by_cases c2 : (ma_165 a1) = (0 : Int32)
  · replace h := qa_icf (q := 12) (qa_e rfl h) rfl (qa_F_ne c2)
    replace h := qa_aload (n := 0) (q := 13) (qa_e rfl h) rfl g0
    replace h := qa_push (z := (-1 : Int32)) (q := 14) (qa_e rfl h) rfl (by decide)
    obtain ⟨r3, er3⟩ : ∃ x, x = (ma_152_99 (-1 : Int32) m1) := ⟨_, rfl⟩
    obtain ⟨M, h, hM, es⟩ := qa_c1 (y := 152) (as := [.ref 99, .int ((-1 : Int32))]) (rest := []) (i := .invokevirtual 152) (q := 17) (qa_e rfl h) (Or.inl rfl) rfl rfl (by decide) rfl (fun r hc => mb_152_99 hM es hc)
    rw [← er3] at h es
    have er := qa_ri (qa_e rfl h)
    subst er
    have e0 : ma_231_99 N a1 σ = (r3.1, r3.2) := by exact Eq.trans (qa_ie em1) (Eq.trans (if_pos c2) (Eq.trans (qa_ie er3) (rfl)))
    rw [e0]
    exact ⟨rfl, hM, es⟩
  · replace h := qa_ict (q := 18) (qa_e rfl h) rfl (qa_T_ne c2)
    replace h := qa_aload (n := 0) (q := 19) (qa_e rfl h) rfl g0
    obtain ⟨m4, em4⟩ : ∃ x, x = (ma_181_99 N m1) := ⟨_, rfl⟩
    obtain ⟨M, h, hM, es⟩ := qa_c0 (y := 181) (as := [.ref 99]) (rest := []) (i := .invokevirtual 181) (q := 22) (qa_e rfl h) (Or.inl rfl) rfl rfl (by decide) rfl (fun r hc => mb_181_99 hN hM es hc)
    rw [← em4] at es
    replace h := qa_push (z := (99 : Int32)) (q := 24) (qa_e rfl h) rfl (by decide)
    obtain ⟨lv, h, g, T⟩ := qa_istore (n := 2) (q := 25) (qa_e rfl h) rfl
    replace g0 := T _ _ g0 (by decide) (Or.inr rfl)
    replace g1 := T _ _ g1 (by decide) (Or.inr rfl)
    have g2 := g
    clear g T
    replace h := qa_push (z := (0 : Int32)) (q := 26) (qa_e rfl h) rfl (by decide)
    obtain ⟨lv, h, g, T⟩ := qa_istore (n := 3) (q := 27) (qa_e rfl h) rfl
    replace g0 := T _ _ g0 (by decide) (Or.inr rfl)
    replace g1 := T _ _ g1 (by decide) (Or.inr rfl)
    replace g2 := T _ _ g2 (by decide) (Or.inr rfl)
    have g3 := g
    clear g T
    replace h := qa_push (z := (0 : Int32)) (q := 28) (qa_e rfl h) rfl (by decide)
    obtain ⟨lv, h, g, T⟩ := qa_istore (n := 4) (q := 30) (qa_e rfl h) rfl
    replace g0 := T _ _ g0 (by decide) (Or.inr rfl)
    replace g1 := T _ _ g1 (by decide) (Or.inr rfl)
    replace g2 := T _ _ g2 (by decide) (Or.inr rfl)
    replace g3 := T _ _ g3 (by decide) (Or.inr rfl)
    have g4 := g
    clear g T
    obtain ⟨r5, er5⟩ : ∃ x, x = (qa_wh (fun s => s) (mc_231_99_p30 N a1 m4) N ((0 : Int32), (99 : Int32), (0 : Int32))) := ⟨_, rfl⟩
    have L := md_231_99_p30 (l1 := a1) (σ := m4) (F := f) (N := N) (r := r) hN f N hN (Nat.le_refl f) ((0 : Int32), (99 : Int32), (0 : Int32)) _ _ hM es g0 g1 g2 g3 g4 h
    rw [← er5] at L
    obtain ⟨lv, M, h, hM, es, g0, g2, g3⟩ := L
    replace h := qa_aload (n := 0) (q := 108) (qa_e rfl h) rfl g0
    replace h := qa_gi (j := 0) (q := 111) (qa_e rfl h) rfl hM es rfl (by decide)
    obtain ⟨lv, M, h, hM, es⟩ : ∃ lv M, q4_run f 231 121 lv [.int ((if (m4 99 0) = (0 : Int32) then (0 : Int32) else (r5.2.2 - r5.2.1)))] M 0 0 = some r ∧ qa_O M ∧ qa_s M = m4 := by
      by_cases c6 : (m4 99 0) = (0 : Int32)
      · replace h := qa_icf (q := 114) (qa_e rfl h) rfl (qa_F_ne c6)
        replace h := qa_push (z := (0 : Int32)) (q := 115) (qa_e rfl h) rfl (by decide)
        replace h := qa_goto (q := 121) (qa_e rfl h) rfl
        exact ⟨lv, M, (qa_hi1 c6 h), hM, es⟩
      · replace h := qa_ict (q := 118) (qa_e rfl h) rfl (qa_T_ne c6)
        replace h := qa_iload (n := 3) (q := 119) (qa_e rfl h) rfl g3
        replace h := qa_iload (n := 2) (q := 120) (qa_e rfl h) rfl g2
        replace h := qa_isub (q := 121) (qa_e rfl h) rfl
        exact ⟨lv, M, (qa_hi0 c6 h), hM, es⟩
    have er := qa_ri (qa_e rfl h)
    subst er
    have e0 : ma_231_99 N a1 σ = ((if (m4 99 0) = (0 : Int32) then (0 : Int32) else (r5.2.2 - r5.2.1)), m4) := by exact Eq.trans (qa_ie em1) (Eq.trans (if_neg c2) (Eq.trans (qa_ie em4) (Eq.trans (qa_ie er5) (rfl))))
    rw [e0]
    exact ⟨rfl, hM, es⟩
noncomputable def mc_232_99_p74 (N : Nat) (l1 : Int32) (l2 : Int32) (l4 : Int32) (l5 : Int32) (l6 : Int32) (σ : qa_S) (s : Int32 × Int32) : (Int32 × Int32) ⊕ (Int32 × Int32) :=
  if s.1 < (σ 99 0) then
    .inl ((s.1 + (1 : Int32)), (s.2 + (σ 110 s.1.toNatClampNeg)))
  else
    .inr (s.1, s.2)
theorem md_232_99_p74 {N F : Nat} {r : Option Value × q4_M} {l1 : Int32} {l2 : Int32} {l4 : Int32} {l5 : Int32} {l6 : Int32} {σ : qa_S} (hN : F ≤ N) : ∀ f n, f ≤ n → f ≤ F → ∀ (s : Int32 × Int32) (lv : List (Nat × Value)) (M : q4_M), qa_O M → qa_s M = σ → q4_get lv 0 = some (.ref 99) → q4_get lv 1 = some (.int (l1)) → q4_get lv 2 = some (.int (l2)) → q4_get lv 4 = some (.int (l4)) → q4_get lv 5 = some (.int (l5)) → q4_get lv 6 = some (.int (l6)) → q4_get lv 7 = some (.int (s.2)) → q4_get lv 8 = some (.int (s.1)) → q4_run f 232 74 lv [] M 0 0 = some r → ∃ lv M, q4_run F 232 101 lv [] M 0 0 = some r ∧ qa_O M ∧ qa_s M = σ ∧ q4_get lv 0 = some (.ref 99) ∧ q4_get lv 1 = some (.int (l1)) ∧ q4_get lv 2 = some (.int (l2)) ∧ q4_get lv 4 = some (.int (l4)) ∧ q4_get lv 5 = some (.int (l5)) ∧ q4_get lv 6 = some (.int (l6)) ∧ q4_get lv 7 = some (.int ((qa_wh (fun s => s) (mc_232_99_p74 N l1 l2 l4 l5 l6 σ) n s).2)) := by
  intro f
  induction f with
  | zero => intro n _ _ s lv M hM es _ _ _ _ _ _ _ _ h; cases h
  | succ f ih =>
    intro n hn hF s lv M hM es g0 g1 g2 g4 g5 g6 g7 g8 h
    obtain ⟨n, rfl⟩ : ∃ n1, n = n1 + 1 := ⟨n - 1, by omega⟩
    replace hn : f ≤ n := Nat.le_of_succ_le_succ hn
    have hN := Nat.le_trans (Nat.le_of_succ_le hF) hN
    replace h := qa_iload (n := 8) (q := 76) (qa_d rfl h) rfl g8
    replace h := qa_aload (n := 0) (q := 77) (qa_e rfl h) rfl g0
    replace h := qa_gi (j := 0) (q := 80) (qa_e rfl h) rfl hM es rfl (by decide)
    by_cases c1 : s.1 < (σ 99 0)
    · replace h := qa_iff (q := 83) (qa_e rfl h) rfl (qa_F_ge c1)
      replace h := qa_iload (n := 7) (q := 85) (qa_e rfl h) rfl g7
      replace h := qa_aload (n := 0) (q := 86) (qa_e rfl h) rfl g0
      replace h := qa_gr (b := 110) (j := 13) (q := 89) (qa_e rfl h) rfl hM rfl (by decide)
      replace h := qa_iload (n := 8) (q := 91) (qa_e rfl h) rfl g8
      replace h := qa_iaload (jn := s.1.toNatClampNeg) (q := 92) (qa_e rfl h) rfl hM es rfl
      replace h := qa_iadd (q := 93) (qa_e rfl h) rfl
      obtain ⟨lv, h, g, T⟩ := qa_istore (n := 7) (q := 95) (qa_e rfl h) rfl
      replace g0 := T _ _ g0 (by decide) (Or.inr rfl)
      replace g1 := T _ _ g1 (by decide) (Or.inr rfl)
      replace g2 := T _ _ g2 (by decide) (Or.inr rfl)
      replace g4 := T _ _ g4 (by decide) (Or.inr rfl)
      replace g5 := T _ _ g5 (by decide) (Or.inr rfl)
      replace g6 := T _ _ g6 (by decide) (Or.inr rfl)
      replace g8 := T _ _ g8 (by decide) (Or.inr rfl)
      have g7 := g
      clear g T
      obtain ⟨lv, h, g, T⟩ := qa_iinc (n := 8) (z := (1 : Int32)) (q := 98) (qa_e rfl h) rfl (by decide) g8
      replace g0 := T _ _ g0 (by decide) (Or.inr rfl)
      replace g1 := T _ _ g1 (by decide) (Or.inr rfl)
      replace g2 := T _ _ g2 (by decide) (Or.inr rfl)
      replace g4 := T _ _ g4 (by decide) (Or.inr rfl)
      replace g5 := T _ _ g5 (by decide) (Or.inr rfl)
      replace g6 := T _ _ g6 (by decide) (Or.inr rfl)
      replace g7 := T _ _ g7 (by decide) (Or.inr rfl)
      replace g8 := g
      clear g T
      replace h := qa_goto (q := 74) (qa_e rfl h) rfl
      have e0 : mc_232_99_p74 N l1 l2 l4 l5 l6 σ s = .inl ((s.1 + (1 : Int32)), (s.2 + (σ 110 s.1.toNatClampNeg))) := by exact Eq.trans (if_pos c1) (rfl)
      rw [qa_whl e0]
      exact ih n hn (Nat.le_of_succ_le hF) ((s.1 + (1 : Int32)), (s.2 + (σ 110 s.1.toNatClampNeg))) _ _ hM es g0 g1 g2 g4 g5 g6 g7 g8 h
    · replace h := qa_ift (q := 101) (qa_e rfl h) rfl (qa_T_ge c1)
      have e0 : mc_232_99_p74 N l1 l2 l4 l5 l6 σ s = .inr (s.1, s.2) := by exact Eq.trans (if_neg c1) (rfl)
      rw [qa_whr e0]
      exact ⟨_, _, q61_mono f F _ _ _ _ _ _ _ _ (Nat.le_of_succ_le hF) h, hM, es, g0, g1, g2, g4, g5, g6, g7⟩
noncomputable def mc_232_99_p51 (N : Nat) (l1 : Int32) (l2 : Int32) (l5 : Int32) (s : Int32 × Int32 × qa_S) : (Int32 × Int32 × qa_S) ⊕ (Int32 × Int32 × qa_S) :=
  if s.1 < l5 then
    qa_in ((ma_196_99 N s.1 s.2.2)) fun m2 =>
    qa_in ((ma_183_99 N m2)) fun m3 =>
    qa_in ((qa_wh (fun s => s) (mc_232_99_p74 N l1 l2 s.2.1 l5 s.1 m3) N ((0 : Int32), (0 : Int32)))) fun r4 =>
    .inl ((s.1 + (1 : Int32)), (if (m3 111 l1.toNatClampNeg) = l2 then (if r4.2 < s.2.1 then r4.2 else s.2.1) else s.2.1), m3)
  else
    .inr (s.1, s.2.1, s.2.2)
theorem md_232_99_p51 {N F : Nat} {r : Option Value × q4_M} {l1 : Int32} {l2 : Int32} {l5 : Int32} (hN : F ≤ N) : ∀ f n, f ≤ n → f ≤ F → ∀ (s : Int32 × Int32 × qa_S) (lv : List (Nat × Value)) (M : q4_M), qa_O M → qa_s M = s.2.2 → q4_get lv 0 = some (.ref 99) → q4_get lv 1 = some (.int (l1)) → q4_get lv 2 = some (.int (l2)) → q4_get lv 4 = some (.int (s.2.1)) → q4_get lv 5 = some (.int (l5)) → q4_get lv 6 = some (.int (s.1)) → q4_run f 232 51 lv [] M 0 0 = some r → ∃ lv M, q4_run F 232 133 lv [] M 0 0 = some r ∧ qa_O M ∧ qa_s M = (qa_wh (fun s => s) (mc_232_99_p51 N l1 l2 l5) n s).2.2 ∧ q4_get lv 4 = some (.int ((qa_wh (fun s => s) (mc_232_99_p51 N l1 l2 l5) n s).2.1)) := by
  intro f
  induction f with
  | zero => intro n _ _ s lv M hM es _ _ _ _ _ _ h; cases h
  | succ f ih =>
    intro n hn hF s lv M hM es g0 g1 g2 g4 g5 g6 h
    obtain ⟨n, rfl⟩ : ∃ n1, n = n1 + 1 := ⟨n - 1, by omega⟩
    replace hn : f ≤ n := Nat.le_of_succ_le_succ hn
    have hN := Nat.le_trans (Nat.le_of_succ_le hF) hN
    replace h := qa_iload (n := 6) (q := 53) (qa_d rfl h) rfl g6
    replace h := qa_iload (n := 5) (q := 55) (qa_e rfl h) rfl g5
    by_cases c1 : s.1 < l5
    · replace h := qa_iff (q := 58) (qa_e rfl h) rfl (qa_F_ge c1)
      replace h := qa_aload (n := 0) (q := 59) (qa_e rfl h) rfl g0
      replace h := qa_iload (n := 6) (q := 61) (qa_e rfl h) rfl g6
      obtain ⟨m2, em2⟩ : ∃ x, x = (ma_196_99 N s.1 s.2.2) := ⟨_, rfl⟩
      obtain ⟨M, h, hM, es⟩ := qa_c0 (y := 196) (as := [.ref 99, .int (s.1)]) (rest := []) (i := .invokevirtual 196) (q := 64) (qa_e rfl h) (Or.inl rfl) rfl rfl (by decide) rfl (fun r hc => mb_196_99 hN hM es hc)
      rw [← em2] at es
      replace h := qa_aload (n := 0) (q := 65) (qa_e rfl h) rfl g0
      obtain ⟨m3, em3⟩ : ∃ x, x = (ma_183_99 N m2) := ⟨_, rfl⟩
      obtain ⟨M, h, hM, es⟩ := qa_c0 (y := 183) (as := [.ref 99]) (rest := []) (i := .invokevirtual 183) (q := 68) (qa_e rfl h) (Or.inl rfl) rfl rfl (by decide) rfl (fun r hc => mb_183_99 hN hM es hc)
      rw [← em3] at es
      replace h := qa_push (z := (0 : Int32)) (q := 69) (qa_e rfl h) rfl (by decide)
      obtain ⟨lv, h, g, T⟩ := qa_istore (n := 7) (q := 71) (qa_e rfl h) rfl
      replace g0 := T _ _ g0 (by decide) (Or.inr rfl)
      replace g1 := T _ _ g1 (by decide) (Or.inr rfl)
      replace g2 := T _ _ g2 (by decide) (Or.inr rfl)
      replace g4 := T _ _ g4 (by decide) (Or.inr rfl)
      replace g5 := T _ _ g5 (by decide) (Or.inr rfl)
      replace g6 := T _ _ g6 (by decide) (Or.inr rfl)
      have g7 := g
      clear g T
      replace h := qa_push (z := (0 : Int32)) (q := 72) (qa_e rfl h) rfl (by decide)
      obtain ⟨lv, h, g, T⟩ := qa_istore (n := 8) (q := 74) (qa_e rfl h) rfl
      replace g0 := T _ _ g0 (by decide) (Or.inr rfl)
      replace g1 := T _ _ g1 (by decide) (Or.inr rfl)
      replace g2 := T _ _ g2 (by decide) (Or.inr rfl)
      replace g4 := T _ _ g4 (by decide) (Or.inr rfl)
      replace g5 := T _ _ g5 (by decide) (Or.inr rfl)
      replace g6 := T _ _ g6 (by decide) (Or.inr rfl)
      replace g7 := T _ _ g7 (by decide) (Or.inr rfl)
      have g8 := g
      clear g T
      obtain ⟨r4, er4⟩ : ∃ x, x = (qa_wh (fun s => s) (mc_232_99_p74 N l1 l2 s.2.1 l5 s.1 m3) N ((0 : Int32), (0 : Int32))) := ⟨_, rfl⟩
      have L := md_232_99_p74 (l1 := l1) (l2 := l2) (l4 := s.2.1) (l5 := l5) (l6 := s.1) (σ := m3) (F := f) (N := N) (r := r) hN f N hN (Nat.le_refl f) ((0 : Int32), (0 : Int32)) _ _ hM es g0 g1 g2 g4 g5 g6 g7 g8 h
      rw [← er4] at L
      obtain ⟨lv, M, h, hM, es, g0, g1, g2, g4, g5, g6, g7⟩ := L
      replace h := qa_aload (n := 0) (q := 102) (qa_e rfl h) rfl g0
      replace h := qa_gr (b := 111) (j := 14) (q := 105) (qa_e rfl h) rfl hM rfl (by decide)
      replace h := qa_iload (n := 1) (q := 106) (qa_e rfl h) rfl g1
      replace h := qa_iaload (jn := l1.toNatClampNeg) (q := 107) (qa_e rfl h) rfl hM es rfl
      replace h := qa_iload (n := 2) (q := 108) (qa_e rfl h) rfl g2
      obtain ⟨lv, M, h, hM, es, g0, g1, g2, g5, g6⟩ : ∃ lv M, q4_run f 232 125 lv [.int ((if (m3 111 l1.toNatClampNeg) = l2 then (if r4.2 < s.2.1 then r4.2 else s.2.1) else s.2.1))] M 0 0 = some r ∧ qa_O M ∧ qa_s M = m3 ∧ q4_get lv 0 = some (.ref 99) ∧ q4_get lv 1 = some (.int (l1)) ∧ q4_get lv 2 = some (.int (l2)) ∧ q4_get lv 5 = some (.int (l5)) ∧ q4_get lv 6 = some (.int (s.1)) := by
        by_cases c5 : (m3 111 l1.toNatClampNeg) = l2
        · replace h := qa_iff (q := 111) (qa_e rfl h) rfl (qa_F_ne c5)
          replace h := qa_iload (n := 7) (q := 113) (qa_e rfl h) rfl g7
          replace h := qa_iload (n := 4) (q := 115) (qa_e rfl h) rfl g4
          obtain ⟨lv, M, h, hM, es, g0, g1, g2, g5, g6⟩ : ∃ lv M, q4_run f 232 125 lv [.int ((if r4.2 < s.2.1 then r4.2 else s.2.1))] M 0 0 = some r ∧ qa_O M ∧ qa_s M = m3 ∧ q4_get lv 0 = some (.ref 99) ∧ q4_get lv 1 = some (.int (l1)) ∧ q4_get lv 2 = some (.int (l2)) ∧ q4_get lv 5 = some (.int (l5)) ∧ q4_get lv 6 = some (.int (s.1)) := by
            by_cases c6 : r4.2 < s.2.1
            · replace h := qa_iff (q := 118) (qa_e rfl h) rfl (qa_F_ge c6)
              replace h := qa_iload (n := 7) (q := 120) (qa_e rfl h) rfl g7
              replace h := qa_goto (q := 125) (qa_e rfl h) rfl
              exact ⟨lv, M, (qa_hi1 c6 h), hM, es, g0, g1, g2, g5, g6⟩
            · replace h := qa_ift (q := 123) (qa_e rfl h) rfl (qa_T_ge c6)
              replace h := qa_iload (n := 4) (q := 125) (qa_e rfl h) rfl g4
              exact ⟨lv, M, (qa_hi0 c6 h), hM, es, g0, g1, g2, g5, g6⟩
          exact ⟨lv, M, (qa_hi1 c5 h), hM, es, g0, g1, g2, g5, g6⟩
        · replace h := qa_ift (q := 123) (qa_e rfl h) rfl (qa_T_ne c5)
          replace h := qa_iload (n := 4) (q := 125) (qa_e rfl h) rfl g4
          exact ⟨lv, M, (qa_hi0 c5 h), hM, es, g0, g1, g2, g5, g6⟩
      obtain ⟨lv, h, g, T⟩ := qa_istore (n := 4) (q := 127) (qa_e rfl h) rfl
      replace g0 := T _ _ g0 (by decide) (Or.inr rfl)
      replace g1 := T _ _ g1 (by decide) (Or.inr rfl)
      replace g2 := T _ _ g2 (by decide) (Or.inr rfl)
      replace g5 := T _ _ g5 (by decide) (Or.inr rfl)
      replace g6 := T _ _ g6 (by decide) (Or.inr rfl)
      have g4 := g
      clear g T
      obtain ⟨lv, h, g, T⟩ := qa_iinc (n := 6) (z := (1 : Int32)) (q := 130) (qa_e rfl h) rfl (by decide) g6
      replace g0 := T _ _ g0 (by decide) (Or.inr rfl)
      replace g1 := T _ _ g1 (by decide) (Or.inr rfl)
      replace g2 := T _ _ g2 (by decide) (Or.inr rfl)
      replace g4 := T _ _ g4 (by decide) (Or.inr rfl)
      replace g5 := T _ _ g5 (by decide) (Or.inr rfl)
      replace g6 := g
      clear g T
      replace h := qa_goto (q := 51) (qa_e rfl h) rfl
      have e0 : mc_232_99_p51 N l1 l2 l5 s = .inl ((s.1 + (1 : Int32)), (if (m3 111 l1.toNatClampNeg) = l2 then (if r4.2 < s.2.1 then r4.2 else s.2.1) else s.2.1), m3) := by exact Eq.trans (if_pos c1) (Eq.trans (qa_ie em2) (Eq.trans (qa_ie em3) (Eq.trans (qa_ie er4) (rfl))))
      rw [qa_whl e0]
      exact ih n hn (Nat.le_of_succ_le hF) ((s.1 + (1 : Int32)), (if (m3 111 l1.toNatClampNeg) = l2 then (if r4.2 < s.2.1 then r4.2 else s.2.1) else s.2.1), m3) _ _ hM es g0 g1 g2 g4 g5 g6 h
    · replace h := qa_ift (q := 133) (qa_e rfl h) rfl (qa_T_ge c1)
      have e0 : mc_232_99_p51 N l1 l2 l5 s = .inr (s.1, s.2.1, s.2.2) := by exact Eq.trans (if_neg c1) (rfl)
      rw [qa_whr e0]
      exact ⟨_, _, q61_mono f F _ _ _ _ _ _ _ _ (Nat.le_of_succ_le hF) h, hM, es, g4⟩
/-- BuriedBySevensModel, pour, (II)I -/
noncomputable def ma_232_99 (N : Nat) (a1 : Int32) (a2 : Int32) (σ : qa_S) : Int32 × qa_S :=
  qa_in (qa_u σ 99 9 (0 : Int32)) fun m1 =>
  if (if (ma_165 a1) = (0 : Int32) then (-1 : Int32) else (ma_175 a2 (0 : Int32) (99 : Int32))) < (0 : Int32) then
    qa_in ((ma_152_99 (if (ma_165 a1) = (0 : Int32) then (-1 : Int32) else (ma_175 a2 (0 : Int32) (99 : Int32))) m1)) fun r4 =>
    (r4.1, r4.2)
  else
    qa_in ((ma_181_99 N m1)) fun m5 =>
    qa_in ((ma_195_99 N m5)) fun r6 =>
    qa_in ((qa_wh (fun s => s) (mc_232_99_p51 N a1 a2 r6) N ((1 : Int32), (99 : Int32), m5))) fun r7 =>
    ((if r7.2.1 = (99 : Int32) then (-9 : Int32) else r7.2.1), r7.2.2)
theorem mb_232_99 {f N : Nat} (hN : f ≤ N) {M : q4_M} {r : Option Value × q4_M} {σ : qa_S} {a1 : Int32} {a2 : Int32} (hM : qa_O M) (es : qa_s M = σ) (h : q4_run f 232 0 (lv_args 0 [.ref 99, .int (a1), .int (a2)]) [] M 0 0 = some r) : r.1 = some (.int ((ma_232_99 N a1 a2 σ).1)) ∧ qa_O r.2 ∧ qa_s r.2 = (ma_232_99 N a1 a2 σ).2 := by
  obtain ⟨lv, el⟩ : ∃ l, l = lv_args 0 [.ref 99, .int (a1), .int (a2)] := ⟨_, rfl⟩
  have g0 : q4_get lv 0 = some (.ref 99) := by rw [el]; rfl
  have g1 : q4_get lv 1 = some (.int (a1)) := by rw [el]; rfl
  have g2 : q4_get lv 2 = some (.int (a2)) := by rw [el]; rfl
  rw [← el] at h
  clear el
  replace h := qa_aload (n := 0) (q := 1) (qa_e rfl h) rfl g0
  replace h := qa_push (z := (0 : Int32)) (q := 2) (qa_e rfl h) rfl (by decide)
  obtain ⟨m1, em1⟩ : ∃ x, x = qa_u σ 99 9 (0 : Int32) := ⟨_, rfl⟩
  obtain ⟨M, h, hM, es⟩ := qa_pf (j := 9) (q := 5) (qa_e rfl h) rfl hM es rfl (by decide)
  rw [← em1] at es
  replace h := qa_iload (n := 1) (q := 6) (qa_e rfl h) rfl g1
  obtain ⟨M, h, hM, es⟩ := qa_c1 (y := 165) (as := [.int (a1)]) (rest := []) (i := .invokestatic 165) (q := 9) (qa_e rfl h) (Or.inr rfl) rfl rfl (by decide) rfl (fun r hc => mb_165 hM es hc)
  obtain ⟨lv, M, h, hM, es, g0, g1, g2⟩ : ∃ lv M, q4_run f 232 23 lv [.int ((if (ma_165 a1) = (0 : Int32) then (-1 : Int32) else (ma_175 a2 (0 : Int32) (99 : Int32))))] M 0 0 = some r ∧ qa_O M ∧ qa_s M = m1 ∧ q4_get lv 0 = some (.ref 99) ∧ q4_get lv 1 = some (.int (a1)) ∧ q4_get lv 2 = some (.int (a2)) := by
    by_cases c2 : (ma_165 a1) = (0 : Int32)
    · replace h := qa_ict (q := 22) (qa_e rfl h) rfl (qa_T_eq c2)
      replace h := qa_push (z := (-1 : Int32)) (q := 23) (qa_e rfl h) rfl (by decide)
      exact ⟨lv, M, (qa_hi1 c2 h), hM, es, g0, g1, g2⟩
    · replace h := qa_icf (q := 12) (qa_e rfl h) rfl (qa_F_eq c2)
      replace h := qa_iload (n := 2) (q := 13) (qa_e rfl h) rfl g2
      replace h := qa_push (z := (0 : Int32)) (q := 14) (qa_e rfl h) rfl (by decide)
      replace h := qa_push (z := (99 : Int32)) (q := 16) (qa_e rfl h) rfl (by decide)
      obtain ⟨M, h, hM, es⟩ := qa_c1 (y := 175) (as := [.int (a2), .int ((0 : Int32)), .int ((99 : Int32))]) (rest := []) (i := .invokestatic 175) (q := 19) (qa_e rfl h) (Or.inr rfl) rfl rfl (by decide) rfl (fun r hc => mb_175 hM es hc)
      replace h := qa_goto (q := 23) (qa_e rfl h) rfl
      exact ⟨lv, M, (qa_hi0 c2 h), hM, es, g0, g1, g2⟩
  obtain ⟨lv, h, g, T⟩ := qa_istore (n := 3) (q := 24) (qa_e rfl h) rfl
  replace g0 := T _ _ g0 (by decide) (Or.inr rfl)
  replace g1 := T _ _ g1 (by decide) (Or.inr rfl)
  replace g2 := T _ _ g2 (by decide) (Or.inr rfl)
  have g3 := g
  clear g T
  replace h := qa_iload (n := 3) (q := 25) (qa_e rfl h) rfl g3
  by_cases c3 : (if (ma_165 a1) = (0 : Int32) then (-1 : Int32) else (ma_175 a2 (0 : Int32) (99 : Int32))) < (0 : Int32)
  · replace h := qa_icf (q := 28) (qa_e rfl h) rfl (qa_F_ge c3)
    replace h := qa_aload (n := 0) (q := 29) (qa_e rfl h) rfl g0
    replace h := qa_iload (n := 3) (q := 30) (qa_e rfl h) rfl g3
    obtain ⟨r4, er4⟩ : ∃ x, x = (ma_152_99 (if (ma_165 a1) = (0 : Int32) then (-1 : Int32) else (ma_175 a2 (0 : Int32) (99 : Int32))) m1) := ⟨_, rfl⟩
    obtain ⟨M, h, hM, es⟩ := qa_c1 (y := 152) (as := [.ref 99, .int ((if (ma_165 a1) = (0 : Int32) then (-1 : Int32) else (ma_175 a2 (0 : Int32) (99 : Int32))))]) (rest := []) (i := .invokevirtual 152) (q := 33) (qa_e rfl h) (Or.inl rfl) rfl rfl (by decide) rfl (fun r hc => mb_152_99 hM es hc)
    rw [← er4] at h es
    have er := qa_ri (qa_e rfl h)
    subst er
    have e0 : ma_232_99 N a1 a2 σ = (r4.1, r4.2) := by exact Eq.trans (qa_ie em1) (Eq.trans (if_pos c3) (Eq.trans (qa_ie er4) (rfl)))
    rw [e0]
    exact ⟨rfl, hM, es⟩
  · replace h := qa_ict (q := 34) (qa_e rfl h) rfl (qa_T_ge c3)
    replace h := qa_aload (n := 0) (q := 35) (qa_e rfl h) rfl g0
    obtain ⟨m5, em5⟩ : ∃ x, x = (ma_181_99 N m1) := ⟨_, rfl⟩
    obtain ⟨M, h, hM, es⟩ := qa_c0 (y := 181) (as := [.ref 99]) (rest := []) (i := .invokevirtual 181) (q := 38) (qa_e rfl h) (Or.inl rfl) rfl rfl (by decide) rfl (fun r hc => mb_181_99 hN hM es hc)
    rw [← em5] at es
    replace h := qa_push (z := (99 : Int32)) (q := 40) (qa_e rfl h) rfl (by decide)
    obtain ⟨lv, h, g, T⟩ := qa_istore (n := 4) (q := 42) (qa_e rfl h) rfl
    replace g0 := T _ _ g0 (by decide) (Or.inr rfl)
    replace g1 := T _ _ g1 (by decide) (Or.inr rfl)
    replace g2 := T _ _ g2 (by decide) (Or.inr rfl)
    have g4 := g
    clear g T
    replace h := qa_aload (n := 0) (q := 43) (qa_e rfl h) rfl g0
    obtain ⟨r6, er6⟩ : ∃ x, x = (ma_195_99 N m5) := ⟨_, rfl⟩
    obtain ⟨M, h, hM, es⟩ := qa_c1 (y := 195) (as := [.ref 99]) (rest := []) (i := .invokevirtual 195) (q := 46) (qa_e rfl h) (Or.inl rfl) rfl rfl (by decide) rfl (fun r hc => mb_195_99 hN hM es hc)
    rw [← er6] at h
    obtain ⟨lv, h, g, T⟩ := qa_istore (n := 5) (q := 48) (qa_e rfl h) rfl
    replace g0 := T _ _ g0 (by decide) (Or.inr rfl)
    replace g1 := T _ _ g1 (by decide) (Or.inr rfl)
    replace g2 := T _ _ g2 (by decide) (Or.inr rfl)
    replace g4 := T _ _ g4 (by decide) (Or.inr rfl)
    have g5 := g
    clear g T
    replace h := qa_push (z := (1 : Int32)) (q := 49) (qa_e rfl h) rfl (by decide)
    obtain ⟨lv, h, g, T⟩ := qa_istore (n := 6) (q := 51) (qa_e rfl h) rfl
    replace g0 := T _ _ g0 (by decide) (Or.inr rfl)
    replace g1 := T _ _ g1 (by decide) (Or.inr rfl)
    replace g2 := T _ _ g2 (by decide) (Or.inr rfl)
    replace g4 := T _ _ g4 (by decide) (Or.inr rfl)
    replace g5 := T _ _ g5 (by decide) (Or.inr rfl)
    have g6 := g
    clear g T
    obtain ⟨r7, er7⟩ : ∃ x, x = (qa_wh (fun s => s) (mc_232_99_p51 N a1 a2 r6) N ((1 : Int32), (99 : Int32), m5)) := ⟨_, rfl⟩
    have L := md_232_99_p51 (l1 := a1) (l2 := a2) (l5 := r6) (F := f) (N := N) (r := r) hN f N hN (Nat.le_refl f) ((1 : Int32), (99 : Int32), m5) _ _ hM es g0 g1 g2 g4 g5 g6 h
    rw [← er7] at L
    obtain ⟨lv, M, h, hM, es, g4⟩ := L
    replace h := qa_iload (n := 4) (q := 135) (qa_e rfl h) rfl g4
    replace h := qa_push (z := (99 : Int32)) (q := 137) (qa_e rfl h) rfl (by decide)
    obtain ⟨lv, M, h, hM, es⟩ : ∃ lv M, q4_run f 232 147 lv [.int ((if r7.2.1 = (99 : Int32) then (-9 : Int32) else r7.2.1))] M 0 0 = some r ∧ qa_O M ∧ qa_s M = r7.2.2 := by
      by_cases c8 : r7.2.1 = (99 : Int32)
      · replace h := qa_iff (q := 140) (qa_e rfl h) rfl (qa_F_ne c8)
        replace h := qa_push (z := (-9 : Int32)) (q := 142) (qa_e rfl h) rfl (by decide)
        replace h := qa_goto (q := 147) (qa_e rfl h) rfl
        exact ⟨lv, M, (qa_hi1 c8 h), hM, es⟩
      · replace h := qa_ift (q := 145) (qa_e rfl h) rfl (qa_T_ne c8)
        replace h := qa_iload (n := 4) (q := 147) (qa_e rfl h) rfl g4
        exact ⟨lv, M, (qa_hi0 c8 h), hM, es⟩
    have er := qa_ri (qa_e rfl h)
    subst er
    have e0 : ma_232_99 N a1 a2 σ = ((if r7.2.1 = (99 : Int32) then (-9 : Int32) else r7.2.1), r7.2.2) := by exact Eq.trans (qa_ie em1) (Eq.trans (if_neg c3) (Eq.trans (qa_ie em5) (Eq.trans (qa_ie er6) (Eq.trans (qa_ie er7) (rfl)))))
    rw [e0]
    exact ⟨rfl, hM, es⟩
