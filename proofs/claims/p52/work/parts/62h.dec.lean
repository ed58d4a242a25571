/-- BuriedBySevens, hidden, (I)I -/
noncomputable def ma_123_3 (N : Nat) (a1 : Int32) (σ : qa_S) : Int32 × qa_S :=
  if (ma_57 a1) = (0 : Int32) then
    qa_in ((ma_9_3 (-2 : Int32) σ)) fun r2 =>
    (r2.1, r2.2)
  else
    qa_in ((ma_46_3 N σ)) fun m3 =>
    qa_in ((qa_wh (fun s => s) (mc_123_3_p26 N a1) N ((0 : Int32), (-9 : Int32), (0 : Int32), m3))) fun r4 =>
    ((if a1 = (0 : Int32) then r4.2.2.1 else r4.2.1), r4.2.2.2)
theorem mb_123_3 {f N : Nat} (hN : f ≤ N) {M : q4_M} {r : Option Value × q4_M} {σ : qa_S} {a1 : Int32} (hM : qa_O M) (es : qa_s M = σ) (h : q4_run f 123 0 (lv_args 0 [.ref 3, .int (a1)]) [] M 0 0 = some r) : r.1 = some (.int ((ma_123_3 N a1 σ).1)) ∧ qa_O r.2 ∧ qa_s r.2 = (ma_123_3 N a1 σ).2 := by
  obtain ⟨lv, el⟩ : ∃ l, l = lv_args 0 [.ref 3, .int (a1)] := ⟨_, rfl⟩
  have g0 : q4_get lv 0 = some (.ref 3) := by rw [el]; rfl
  have g1 : q4_get lv 1 = some (.int (a1)) := by rw [el]; rfl
  rw [← el] at h
  clear el
  replace h := qa_iload (n := 1) (q := 1) (qa_e rfl h) rfl g1
  obtain ⟨M, h, hM, es⟩ := qa_c1 (y := 57) (as := [.int (a1)]) (rest := []) (i := .invokestatic 57) (q := 4) (qa_e rfl h) (Or.inr rfl) rfl rfl (by decide) rfl (fun r hc => mb_57 hM es hc)
  by_cases c1 : (ma_57 a1) = (0 : Int32)
  · replace h := qa_icf (q := 7) (qa_e rfl h) rfl (qa_F_ne c1)
    replace h := qa_aload (n := 0) (q := 8) (qa_e rfl h) rfl g0
    replace h := qa_push (z := (-2 : Int32)) (q := 10) (qa_e rfl h) rfl (by decide)
    obtain ⟨r2, er2⟩ : ∃ x, x = (ma_9_3 (-2 : Int32) σ) := ⟨_, rfl⟩
    obtain ⟨M, h, hM, es⟩ := qa_c1 (y := 9) (as := [.ref 3, .int ((-2 : Int32))]) (rest := []) (i := .invokevirtual 9) (q := 13) (qa_e rfl h) (Or.inl rfl) rfl rfl (by decide) rfl (fun r hc => mb_9_3 hM es hc)
    rw [← er2] at h es
    have er := qa_ri (qa_e rfl h)
    subst er
    have e0 : ma_123_3 N a1 σ = (r2.1, r2.2) := by exact Eq.trans (if_pos c1) (Eq.trans (qa_ie er2) (rfl))
    rw [e0]
    exact ⟨rfl, hM, es⟩
  · replace h := qa_ict (q := 14) (qa_e rfl h) rfl (qa_T_ne c1)
    replace h := qa_aload (n := 0) (q := 15) (qa_e rfl h) rfl g0
    obtain ⟨m3, em3⟩ : ∃ x, x = (ma_46_3 N σ) := ⟨_, rfl⟩
    obtain ⟨M, h, hM, es⟩ := qa_c0 (y := 46) (as := [.ref 3]) (rest := []) (i := .invokevirtual 46) (q := 18) (qa_e rfl h) (Or.inl rfl) rfl rfl (by decide) rfl (fun r hc => mb_46_3 hN hM es hc)
    rw [← em3] at es
    replace h := qa_push (z := (-9 : Int32)) (q := 20) (qa_e rfl h) rfl (by decide)
    obtain ⟨lv, h, g, T⟩ := qa_istore (n := 2) (q := 21) (qa_e rfl h) rfl
    replace g0 := T _ _ g0 (by decide) (Or.inr rfl)
    replace g1 := T _ _ g1 (by decide) (Or.inr rfl)
    have g2 := g
    clear g T
    replace h := qa_push (z := (0 : Int32)) (q := 22) (qa_e rfl h) rfl (by decide)
    obtain ⟨lv, h, g, T⟩ := qa_istore (n := 3) (q := 23) (qa_e rfl h) rfl
    replace g0 := T _ _ g0 (by decide) (Or.inr rfl)
    replace g1 := T _ _ g1 (by decide) (Or.inr rfl)
    replace g2 := T _ _ g2 (by decide) (Or.inr rfl)
    have g3 := g
    clear g T
    replace h := qa_push (z := (0 : Int32)) (q := 24) (qa_e rfl h) rfl (by decide)
    obtain ⟨lv, h, g, T⟩ := qa_istore (n := 4) (q := 26) (qa_e rfl h) rfl
    replace g0 := T _ _ g0 (by decide) (Or.inr rfl)
    replace g1 := T _ _ g1 (by decide) (Or.inr rfl)
    replace g2 := T _ _ g2 (by decide) (Or.inr rfl)
    replace g3 := T _ _ g3 (by decide) (Or.inr rfl)
    have g4 := g
    clear g T
    obtain ⟨r4, er4⟩ : ∃ x, x = (qa_wh (fun s => s) (mc_123_3_p26 N a1) N ((0 : Int32), (-9 : Int32), (0 : Int32), m3)) := ⟨_, rfl⟩
    have L := md_123_3_p26 (l1 := a1) (F := f) (N := N) (r := r) hN f N hN (Nat.le_refl f) ((0 : Int32), (-9 : Int32), (0 : Int32), m3) _ _ hM es g0 g1 g2 g3 g4 h
    rw [← er4] at L
    obtain ⟨lv, M, h, hM, es, g1, g2, g3⟩ := L
    replace h := qa_iload (n := 1) (q := 139) (qa_e rfl h) rfl g1
    obtain ⟨lv, M, h, hM, es⟩ : ∃ lv M, q4_run f 123 147 lv [.int ((if a1 = (0 : Int32) then r4.2.2.1 else r4.2.1))] M 0 0 = some r ∧ qa_O M ∧ qa_s M = r4.2.2.2 := by
      by_cases c5 : a1 = (0 : Int32)
      · replace h := qa_icf (q := 142) (qa_e rfl h) rfl (qa_F_ne c5)
        replace h := qa_iload (n := 3) (q := 143) (qa_e rfl h) rfl g3
        replace h := qa_goto (q := 147) (qa_e rfl h) rfl
        exact ⟨lv, M, (qa_hi1 c5 h), hM, es⟩
      · replace h := qa_ict (q := 146) (qa_e rfl h) rfl (qa_T_ne c5)
        replace h := qa_iload (n := 2) (q := 147) (qa_e rfl h) rfl g2
        exact ⟨lv, M, (qa_hi0 c5 h), hM, es⟩
    have er := qa_ri (qa_e rfl h)
    subst er
    have e0 : ma_123_3 N a1 σ = ((if a1 = (0 : Int32) then r4.2.2.1 else r4.2.1), r4.2.2.2) := by exact Eq.trans (if_neg c1) (Eq.trans (qa_ie em3) (Eq.trans (qa_ie er4) (rfl)))
    rw [e0]
    exact ⟨rfl, hM, es⟩
noncomputable def mc_124_3_p19 (N : Nat) (l1 : Int32) (s : Int32 × qa_S) : (Int32 × qa_S) ⊕ ((Int32 × qa_S) ⊕ (Int32 × qa_S)) :=
  if (99 : Int32) < s.1 then
    .inr (.inr (s.1, s.2))
  else
    qa_in ((ma_47_4 N 7 (-1 : Int32) s.1 95 s.2)) fun m2 =>
    qa_in ((ma_53_3 N l1 95 96 m2)) fun r3 =>
    if r3 = (0 : Int32) then
      .inr (.inl (s.1, m2))
    else
      .inl ((s.1 + (1 : Int32)), m2)
theorem md_124_3_p19 {N F : Nat} {r : Option Value × q4_M} {l1 : Int32} (hN : F ≤ N) : ∀ f n, f ≤ n → f ≤ F → ∀ (s : Int32 × qa_S) (lv : List (Nat × Value)) (M : q4_M), qa_O M → qa_s M = s.2 → q4_get lv 0 = some (.ref 3) → q4_get lv 1 = some (.int (l1)) → q4_get lv 2 = some (.int (s.1)) → q4_run f 124 19 lv [] M 0 0 = some r → (∀ b, (qa_wh (fun s => .inr s) (mc_124_3_p19 N l1) n s) = .inl b → r.1 = some (.int (b.1)) ∧ qa_O r.2 ∧ qa_s r.2 = b.2) ∧ (∀ b, (qa_wh (fun s => .inr s) (mc_124_3_p19 N l1) n s) = .inr b → ∃ lv M, q4_run F 124 69 lv [] M 0 0 = some r ∧ qa_O M ∧ qa_s M = b.2) := by
  intro f
  induction f with
  | zero => intro n _ _ s lv M hM es _ _ _ h; cases h
  | succ f ih =>
    intro n hn hF s lv M hM es g0 g1 g2 h
    obtain ⟨n, rfl⟩ : ∃ n1, n = n1 + 1 := ⟨n - 1, by omega⟩
    replace hn : f ≤ n := Nat.le_of_succ_le_succ hn
    have hN := Nat.le_trans (Nat.le_of_succ_le hF) hN
    replace h := qa_iload (n := 2) (q := 20) (qa_d rfl h) rfl g2
    replace h := qa_push (z := (99 : Int32)) (q := 22) (qa_e rfl h) rfl (by decide)
    by_cases c1 : (99 : Int32) < s.1
    · replace h := qa_ift (q := 69) (qa_e rfl h) rfl (qa_T_gt c1)
      have e0 : mc_124_3_p19 N l1 s = .inr (.inr (s.1, s.2)) := by exact Eq.trans (if_pos c1) (rfl)
      rw [qa_whr e0]
      exact ⟨fun b hb => (nomatch hb), fun b hb => (by have e := Sum.inr.inj hb; subst e; exact ⟨_, _, q61_mono f F _ _ _ _ _ _ _ _ (Nat.le_of_succ_le hF) h, hM, es⟩)⟩
    · replace h := qa_iff (q := 25) (qa_e rfl h) rfl (qa_F_gt c1)
      replace h := qa_aload (n := 0) (q := 26) (qa_e rfl h) rfl g0
      replace h := qa_gr (b := 4) (j := 0) (q := 29) (qa_e rfl h) rfl hM rfl (by decide)
      replace h := qa_aload (n := 0) (q := 30) (qa_e rfl h) rfl g0
      replace h := qa_gr (b := 4) (j := 0) (q := 33) (qa_e rfl h) rfl hM rfl (by decide)
      replace h := qa_gr (b := 7) (j := 4) (q := 36) (qa_e rfl h) rfl hM rfl (by decide)
      replace h := qa_push (z := (-1 : Int32)) (q := 37) (qa_e rfl h) rfl (by decide)
      replace h := qa_iload (n := 2) (q := 38) (qa_e rfl h) rfl g2
      replace h := qa_aload (n := 0) (q := 39) (qa_e rfl h) rfl g0
      replace h := qa_gr (b := 95) (j := 12) (q := 42) (qa_e rfl h) rfl hM rfl (by decide)
      obtain ⟨m2, em2⟩ : ∃ x, x = (ma_47_4 N 7 (-1 : Int32) s.1 95 s.2) := ⟨_, rfl⟩
      obtain ⟨M, h, hM, es⟩ := qa_c0 (y := 47) (as := [.ref 4, .ref 7, .int ((-1 : Int32)), .int (s.1), .ref 95]) (rest := []) (i := .invokevirtual 47) (q := 45) (qa_e rfl h) (Or.inl rfl) rfl rfl (by decide) rfl (fun r hc => mb_47_4 hN hM es hc)
      rw [← em2] at es
      replace h := qa_aload (n := 0) (q := 46) (qa_e rfl h) rfl g0
      replace h := qa_iload (n := 1) (q := 47) (qa_e rfl h) rfl g1
      replace h := qa_aload (n := 0) (q := 48) (qa_e rfl h) rfl g0
      replace h := qa_gr (b := 95) (j := 12) (q := 51) (qa_e rfl h) rfl hM rfl (by decide)
      replace h := qa_aload (n := 0) (q := 52) (qa_e rfl h) rfl g0
      replace h := qa_gr (b := 96) (j := 13) (q := 55) (qa_e rfl h) rfl hM rfl (by decide)
      obtain ⟨r3, er3⟩ : ∃ x, x = (ma_53_3 N l1 95 96 m2) := ⟨_, rfl⟩
      obtain ⟨M, h, hM, es⟩ := qa_c1 (y := 53) (as := [.ref 3, .int (l1), .ref 95, .ref 96]) (rest := []) (i := .invokevirtual 53) (q := 58) (qa_e rfl h) (Or.inl rfl) rfl rfl (by decide) rfl (fun r hc => mb_53_3 hN hM es hc)
      rw [← er3] at h
      by_cases c4 : r3 = (0 : Int32)
      · replace h := qa_icf (q := 61) (qa_e rfl h) rfl (qa_F_ne c4)
        replace h := qa_iload (n := 2) (q := 62) (qa_e rfl h) rfl g2
        have er := qa_ri (qa_e rfl h)
        subst er
        have e0 : mc_124_3_p19 N l1 s = .inr (.inl (s.1, m2)) := by exact Eq.trans (if_neg c1) (Eq.trans (qa_ie em2) (Eq.trans (qa_ie er3) (Eq.trans (if_pos c4) (rfl))))
        rw [qa_whr e0]
        exact ⟨fun b hb => (by have e := Sum.inl.inj hb; subst e; exact ⟨rfl, hM, es⟩), fun b hb => nomatch hb⟩
      · replace h := qa_ict (q := 63) (qa_e rfl h) rfl (qa_T_ne c4)
        obtain ⟨lv, h, g, T⟩ := qa_iinc (n := 2) (z := (1 : Int32)) (q := 66) (qa_e rfl h) rfl (by decide) g2
        replace g0 := T _ _ g0 (by decide) (Or.inr rfl)
        replace g1 := T _ _ g1 (by decide) (Or.inr rfl)
        replace g2 := g
        clear g T
        replace h := qa_goto (q := 19) (qa_e rfl h) rfl
        have e0 : mc_124_3_p19 N l1 s = .inl ((s.1 + (1 : Int32)), m2) := by exact Eq.trans (if_neg c1) (Eq.trans (qa_ie em2) (Eq.trans (qa_ie er3) (Eq.trans (if_neg c4) (rfl))))
        rw [qa_whl e0]
        exact ih n hn (Nat.le_of_succ_le hF) ((s.1 + (1 : Int32)), m2) _ _ hM es g0 g1 g2 h
/-- BuriedBySevens, diluted, (I)I -/
noncomputable def ma_124_3 (N : Nat) (a1 : Int32) (σ : qa_S) : Int32 × qa_S :=
  if (ma_33_4 a1 σ) = (0 : Int32) then
    qa_in ((ma_9_3 (-1 : Int32) σ)) fun r2 =>
    (r2.1, r2.2)
  else
    qa_in ((qa_wh (fun s => .inr s) (mc_124_3_p19 N a1) N ((0 : Int32), σ))) fun r3 =>
    qa_cs r3
      (fun b4 =>
        (b4.1, b4.2))
      (fun b4 =>
        ((-9 : Int32), b4.2))
theorem mb_124_3 {f N : Nat} (hN : f ≤ N) {M : q4_M} {r : Option Value × q4_M} {σ : qa_S} {a1 : Int32} (hM : qa_O M) (es : qa_s M = σ) (h : q4_run f 124 0 (lv_args 0 [.ref 3, .int (a1)]) [] M 0 0 = some r) : r.1 = some (.int ((ma_124_3 N a1 σ).1)) ∧ qa_O r.2 ∧ qa_s r.2 = (ma_124_3 N a1 σ).2 := by
  obtain ⟨lv, el⟩ : ∃ l, l = lv_args 0 [.ref 3, .int (a1)] := ⟨_, rfl⟩
  have g0 : q4_get lv 0 = some (.ref 3) := by rw [el]; rfl
  have g1 : q4_get lv 1 = some (.int (a1)) := by rw [el]; rfl
  rw [← el] at h
  clear el
  replace h := qa_aload (n := 0) (q := 1) (qa_e rfl h) rfl g0
  replace h := qa_gr (b := 4) (j := 0) (q := 4) (qa_e rfl h) rfl hM rfl (by decide)
  replace h := qa_iload (n := 1) (q := 5) (qa_e rfl h) rfl g1
  obtain ⟨M, h, hM, es⟩ := qa_c1 (y := 33) (as := [.ref 4, .int (a1)]) (rest := []) (i := .invokevirtual 33) (q := 8) (qa_e rfl h) (Or.inl rfl) rfl rfl (by decide) rfl (fun r hc => mb_33_4 hM es hc)
  by_cases c1 : (ma_33_4 a1 σ) = (0 : Int32)
  · replace h := qa_icf (q := 11) (qa_e rfl h) rfl (qa_F_ne c1)
    replace h := qa_aload (n := 0) (q := 12) (qa_e rfl h) rfl g0
    replace h := qa_push (z := (-1 : Int32)) (q := 13) (qa_e rfl h) rfl (by decide)
    obtain ⟨r2, er2⟩ : ∃ x, x = (ma_9_3 (-1 : Int32) σ) := ⟨_, rfl⟩
    obtain ⟨M, h, hM, es⟩ := qa_c1 (y := 9) (as := [.ref 3, .int ((-1 : Int32))]) (rest := []) (i := .invokevirtual 9) (q := 16) (qa_e rfl h) (Or.inl rfl) rfl rfl (by decide) rfl (fun r hc => mb_9_3 hM es hc)
    rw [← er2] at h es
    have er := qa_ri (qa_e rfl h)
    subst er
    have e0 : ma_124_3 N a1 σ = (r2.1, r2.2) := by exact Eq.trans (if_pos c1) (Eq.trans (qa_ie er2) (rfl))
    rw [e0]
    exact ⟨rfl, hM, es⟩
  · replace h := qa_ict (q := 17) (qa_e rfl h) rfl (qa_T_ne c1)
    replace h := qa_push (z := (0 : Int32)) (q := 18) (qa_e rfl h) rfl (by decide)
    obtain ⟨lv, h, g, T⟩ := qa_istore (n := 2) (q := 19) (qa_e rfl h) rfl
    replace g0 := T _ _ g0 (by decide) (Or.inr rfl)
    replace g1 := T _ _ g1 (by decide) (Or.inr rfl)
    have g2 := g
    clear g T
    obtain ⟨r3, er3⟩ : ∃ x, x = (qa_wh (fun s => .inr s) (mc_124_3_p19 N a1) N ((0 : Int32), σ)) := ⟨_, rfl⟩
    have L := md_124_3_p19 (l1 := a1) (F := f) (N := N) (r := r) hN f N hN (Nat.le_refl f) ((0 : Int32), σ) _ _ hM es g0 g1 g2 h
    rw [← er3] at L
    rcases qr3 : r3 with b4 | b4
    · obtain ⟨h, hM, es⟩ := L.1 b4 qr3
      have e0 : ma_124_3 N a1 σ = (b4.1, b4.2) := by exact Eq.trans (if_neg c1) (Eq.trans (qa_ie er3) (Eq.trans (qa_csl qr3 _ _) (rfl)))
      rw [e0]
      exact ⟨h, hM, es⟩
    · obtain ⟨lv, M, h, hM, es⟩ := L.2 b4 qr3
      replace h := qa_push (z := (-9 : Int32)) (q := 71) (qa_e rfl h) rfl (by decide)
      have er := qa_ri (qa_e rfl h)
      subst er
      have e0 : ma_124_3 N a1 σ = ((-9 : Int32), b4.2) := by exact Eq.trans (if_neg c1) (Eq.trans (qa_ie er3) (Eq.trans (qa_csr qr3 _ _) (rfl)))
      rw [e0]
      exact ⟨rfl, hM, es⟩
noncomputable def mc_68_98_p5 (N : Nat) (l1 : Int32) (l3 : Int32) (s : Int32 × qa_S) : (Int32 × qa_S) ⊕ (Int32 × qa_S) :=
  if s.1 < l3 then
    qa_in (qa_u s.2 98 s.1.toNatClampNeg l1) fun m2 =>
    .inl ((s.1 + (1 : Int32)), m2)
  else
    .inr (s.1, s.2)
theorem md_68_98_p5 {N F : Nat} {r : Option Value × q4_M} {l1 : Int32} {l3 : Int32} (hN : F ≤ N) : ∀ f n, f ≤ n → f ≤ F → ∀ (s : Int32 × qa_S) (lv : List (Nat × Value)) (M : q4_M), qa_O M → qa_s M = s.2 → q4_get lv 0 = some (.ref 98) → q4_get lv 1 = some (.int (l1)) → q4_get lv 2 = some (.int (s.1)) → q4_get lv 3 = some (.int (l3)) → q4_run f 68 5 lv [] M 0 0 = some r → ∃ lv M, q4_run F 68 20 lv [] M 0 0 = some r ∧ qa_O M ∧ qa_s M = (qa_wh (fun s => s) (mc_68_98_p5 N l1 l3) n s).2 := by
  intro f
  induction f with
  | zero => intro n _ _ s lv M hM es _ _ _ _ h; cases h
  | succ f ih =>
    intro n hn hF s lv M hM es g0 g1 g2 g3 h
    obtain ⟨n, rfl⟩ : ∃ n1, n = n1 + 1 := ⟨n - 1, by omega⟩
    replace hn : f ≤ n := Nat.le_of_succ_le_succ hn
    have hN := Nat.le_trans (Nat.le_of_succ_le hF) hN
    replace h := qa_iload (n := 2) (q := 6) (qa_d rfl h) rfl g2
    replace h := qa_iload (n := 3) (q := 7) (qa_e rfl h) rfl g3
    by_cases c1 : s.1 < l3
    · replace h := qa_iff (q := 10) (qa_e rfl h) rfl (qa_F_ge c1)
      replace h := qa_aload (n := 0) (q := 11) (qa_e rfl h) rfl g0
      replace h := qa_iload (n := 2) (q := 12) (qa_e rfl h) rfl g2
      replace h := qa_iload (n := 1) (q := 13) (qa_e rfl h) rfl g1
      obtain ⟨m2, em2⟩ : ∃ x, x = qa_u s.2 98 s.1.toNatClampNeg l1 := ⟨_, rfl⟩
      obtain ⟨M, h, hM, es⟩ := qa_iastore (jn := s.1.toNatClampNeg) (q := 14) (qa_e rfl h) rfl hM es rfl
      rw [← em2] at es
      obtain ⟨lv, h, g, T⟩ := qa_iinc (n := 2) (z := (1 : Int32)) (q := 17) (qa_e rfl h) rfl (by decide) g2
      replace g0 := T _ _ g0 (by decide) (Or.inr rfl)
      replace g1 := T _ _ g1 (by decide) (Or.inr rfl)
      replace g3 := T _ _ g3 (by decide) (Or.inr rfl)
      replace g2 := g
      clear g T
      replace h := qa_goto (q := 5) (qa_e rfl h) rfl
      have e0 : mc_68_98_p5 N l1 l3 s = .inl ((s.1 + (1 : Int32)), m2) := by exact Eq.trans (if_pos c1) (Eq.trans (qa_ie em2) (rfl))
      rw [qa_whl e0]
      exact ih n hn (Nat.le_of_succ_le hF) ((s.1 + (1 : Int32)), m2) _ _ hM es g0 g1 g2 g3 h
    · replace h := qa_ift (q := 20) (qa_e rfl h) rfl (qa_T_ge c1)
      have e0 : mc_68_98_p5 N l1 l3 s = .inr (s.1, s.2) := by exact Eq.trans (if_neg c1) (rfl)
      rw [qa_whr e0]
      exact ⟨_, _, q61_mono f F _ _ _ _ _ _ _ _ (Nat.le_of_succ_le hF) h, hM, es⟩
/-- java/util/Arrays, fill, ([II)V -/
noncomputable def ma_68_98 (N : Nat) (a1 : Int32) (σ : qa_S) : qa_S :=
  qa_in ((qa_wh (fun s => s) (mc_68_98_p5 N a1 (4096 : Int32)) N ((0 : Int32), σ))) fun r1 =>
  r1.2
theorem mb_68_98 {f N : Nat} (hN : f ≤ N) {M : q4_M} {r : Option Value × q4_M} {σ : qa_S} {a1 : Int32} (hM : qa_O M) (es : qa_s M = σ) (h : q4_run f 68 0 (lv_args 0 [.ref 98, .int (a1)]) [] M 0 0 = some r) : r.1 = none ∧ qa_O r.2 ∧ qa_s r.2 = (ma_68_98 N a1 σ) := by
  obtain ⟨lv, el⟩ : ∃ l, l = lv_args 0 [.ref 98, .int (a1)] := ⟨_, rfl⟩
  have g0 : q4_get lv 0 = some (.ref 98) := by rw [el]; rfl
  have g1 : q4_get lv 1 = some (.int (a1)) := by rw [el]; rfl
  rw [← el] at h
  clear el
  replace h := qa_push (z := (0 : Int32)) (q := 1) (qa_e rfl h) rfl (by decide)
  obtain ⟨lv, h, g, T⟩ := qa_istore (n := 2) (q := 2) (qa_e rfl h) rfl
  replace g0 := T _ _ g0 (by decide) (Or.inr rfl)
  replace g1 := T _ _ g1 (by decide) (Or.inr rfl)
  have g2 := g
  clear g T
  replace h := qa_aload (n := 0) (q := 3) (qa_e rfl h) rfl g0
  replace h := qa_alen (z := (4096 : Int32)) (q := 4) (qa_e rfl h) rfl hM (by decide) (by decide)
  obtain ⟨lv, h, g, T⟩ := qa_istore (n := 3) (q := 5) (qa_e rfl h) rfl
  replace g0 := T _ _ g0 (by decide) (Or.inr rfl)
  replace g1 := T _ _ g1 (by decide) (Or.inr rfl)
  replace g2 := T _ _ g2 (by decide) (Or.inr rfl)
  have g3 := g
  clear g T
  obtain ⟨r1, er1⟩ : ∃ x, x = (qa_wh (fun s => s) (mc_68_98_p5 N a1 (4096 : Int32)) N ((0 : Int32), σ)) := ⟨_, rfl⟩
  have L := md_68_98_p5 (l1 := a1) (l3 := (4096 : Int32)) (F := f) (N := N) (r := r) hN f N hN (Nat.le_refl f) ((0 : Int32), σ) _ _ hM es g0 g1 g2 g3 h
  rw [← er1] at L
  obtain ⟨lv, M, h, hM, es⟩ := L
  have er := qa_rv (qa_e rfl h)
  subst er
  have e0 : ma_68_98 N a1 σ = r1.2 := by exact Eq.trans (qa_ie er1) (rfl)
  rw [e0]
  exact ⟨rfl, hM, es⟩
noncomputable def mc_126_3_p5 (N : Nat) (l1 : Int32) (l2 : Int32) (s : Int32 × Int32 × qa_S) : (Int32 × Int32 × qa_S) ⊕ (Int32 × Int32 × qa_S) :=
  if s.1 < (4 : Int32) then
    qa_in ((ma_72_3 N s.2.2)) fun m2 =>
    .inl ((s.1 + (1 : Int32)), ((s.2.1 <<< ((7 : Int32) &&& 31)) ||| (if (ma_48 (m2 24 l1.toNatClampNeg) s.1) = (0 : Int32) then (0 : Int32) else (ma_50 (m2 (75 + s.1.toNatClampNeg) l2.toNatClampNeg) (m2 25 l1.toNatClampNeg)))), m2)
  else
    .inr (s.1, s.2.1, s.2.2)
theorem md_126_3_p5 {N F : Nat} {r : Option Value × q4_M} {l1 : Int32} {l2 : Int32} (hN : F ≤ N) : ∀ f n, f ≤ n → f ≤ F → ∀ (s : Int32 × Int32 × qa_S) (lv : List (Nat × Value)) (M : q4_M), qa_O M → qa_s M = s.2.2 → q4_get lv 0 = some (.ref 3) → q4_get lv 1 = some (.int (l1)) → q4_get lv 2 = some (.int (l2)) → q4_get lv 3 = some (.int (s.2.1)) → q4_get lv 4 = some (.int (s.1)) → q4_run f 126 5 lv [] M 0 0 = some r → ∃ lv M, q4_run F 126 76 lv [] M 0 0 = some r ∧ qa_O M ∧ qa_s M = (qa_wh (fun s => s) (mc_126_3_p5 N l1 l2) n s).2.2 ∧ q4_get lv 3 = some (.int ((qa_wh (fun s => s) (mc_126_3_p5 N l1 l2) n s).2.1)) := by
  intro f
  induction f with
  | zero => intro n _ _ s lv M hM es _ _ _ _ _ h; cases h
  | succ f ih =>
    intro n hn hF s lv M hM es g0 g1 g2 g3 g4 h
    obtain ⟨n, rfl⟩ : ∃ n1, n = n1 + 1 := ⟨n - 1, by omega⟩
    replace hn : f ≤ n := Nat.le_of_succ_le_succ hn
    have hN := Nat.le_trans (Nat.le_of_succ_le hF) hN
    replace h := qa_iload (n := 4) (q := 7) (qa_d rfl h) rfl g4
    replace h := qa_push (z := (4 : Int32)) (q := 8) (qa_e rfl h) rfl (by decide)
    by_cases c1 : s.1 < (4 : Int32)
    · replace h := qa_iff (q := 11) (qa_e rfl h) rfl (qa_F_ge c1)
      replace h := qa_aload (n := 0) (q := 12) (qa_e rfl h) rfl g0
      obtain ⟨m2, em2⟩ : ∃ x, x = (ma_72_3 N s.2.2) := ⟨_, rfl⟩
      obtain ⟨M, h, hM, es⟩ := qa_c1 (y := 72) (as := [.ref 3]) (rest := []) (i := .invokevirtual 72) (q := 15) (qa_e rfl h) (Or.inl rfl) rfl rfl (by decide) rfl (fun r hc => mb_72_3 hN hM es hc)
      rw [← em2] at es
      replace h := qa_gr (b := 74) (j := 2) (q := 18) (qa_e rfl h) rfl hM rfl (by decide)
      replace h := qa_iload (n := 4) (q := 20) (qa_e rfl h) rfl g4
      replace h := qa_aaload (b := 75) (jn := s.1.toNatClampNeg) (q := 21) (qa_e rfl h) rfl hM rfl (by decide) (by decide +kernel)
      replace h := qa_iload (n := 2) (q := 22) (qa_e rfl h) rfl g2
      replace h := qa_iaload (jn := l2.toNatClampNeg) (q := 23) (qa_e rfl h) rfl hM es rfl
      obtain ⟨lv, h, g, T⟩ := qa_istore (n := 5) (q := 25) (qa_e rfl h) rfl
      replace g0 := T _ _ g0 (by decide) (Or.inr rfl)
      replace g1 := T _ _ g1 (by decide) (Or.inr rfl)
      replace g2 := T _ _ g2 (by decide) (Or.inr rfl)
      replace g3 := T _ _ g3 (by decide) (Or.inr rfl)
      replace g4 := T _ _ g4 (by decide) (Or.inr rfl)
      have g5 := g
      clear g T
      replace h := qa_aload (n := 0) (q := 26) (qa_e rfl h) rfl g0
      replace h := qa_gr (b := 4) (j := 0) (q := 29) (qa_e rfl h) rfl hM rfl (by decide)
      replace h := qa_gr (b := 24) (j := 7) (q := 32) (qa_e rfl h) rfl hM rfl (by decide)
      replace h := qa_iload (n := 1) (q := 33) (qa_e rfl h) rfl g1
      replace h := qa_iaload (jn := l1.toNatClampNeg) (q := 34) (qa_e rfl h) rfl hM es rfl
      replace h := qa_iload (n := 4) (q := 36) (qa_e rfl h) rfl g4
      obtain ⟨M, h, hM, es⟩ := qa_c1 (y := 48) (as := [.int ((m2 24 l1.toNatClampNeg)), .int (s.1)]) (rest := []) (i := .invokestatic 48) (q := 39) (qa_e rfl h) (Or.inr rfl) rfl rfl (by decide) rfl (fun r hc => mb_48 hM es hc)
      obtain ⟨lv, h, g, T⟩ := qa_istore (n := 6) (q := 41) (qa_e rfl h) rfl
      replace g0 := T _ _ g0 (by decide) (Or.inr rfl)
      replace g1 := T _ _ g1 (by decide) (Or.inr rfl)
      replace g2 := T _ _ g2 (by decide) (Or.inr rfl)
      replace g3 := T _ _ g3 (by decide) (Or.inr rfl)
      replace g4 := T _ _ g4 (by decide) (Or.inr rfl)
      replace g5 := T _ _ g5 (by decide) (Or.inr rfl)
      have g6 := g
      clear g T
      replace h := qa_iload (n := 3) (q := 42) (qa_e rfl h) rfl g3
      replace h := qa_push (z := (7 : Int32)) (q := 44) (qa_e rfl h) rfl (by decide)
      replace h := qa_ishl (q := 45) (qa_e rfl h) rfl
      replace h := qa_iload (n := 6) (q := 47) (qa_e rfl h) rfl g6
      obtain ⟨lv, M, h, hM, es, g0, g1, g2, g4⟩ : ∃ lv M, q4_run f 126 68 lv [.int ((if (ma_48 (m2 24 l1.toNatClampNeg) s.1) = (0 : Int32) then (0 : Int32) else (ma_50 (m2 (75 + s.1.toNatClampNeg) l2.toNatClampNeg) (m2 25 l1.toNatClampNeg)))), .int ((s.2.1 <<< ((7 : Int32) &&& 31)))] M 0 0 = some r ∧ qa_O M ∧ qa_s M = m2 ∧ q4_get lv 0 = some (.ref 3) ∧ q4_get lv 1 = some (.int (l1)) ∧ q4_get lv 2 = some (.int (l2)) ∧ q4_get lv 4 = some (.int (s.1)) := by
        by_cases c3 : (ma_48 (m2 24 l1.toNatClampNeg) s.1) = (0 : Int32)
        · replace h := qa_ict (q := 67) (qa_e rfl h) rfl (qa_T_eq c3)
          replace h := qa_push (z := (0 : Int32)) (q := 68) (qa_e rfl h) rfl (by decide)
          exact ⟨lv, M, (qa_hi1 c3 h), hM, es, g0, g1, g2, g4⟩
        · replace h := qa_icf (q := 50) (qa_e rfl h) rfl (qa_F_eq c3)
          replace h := qa_iload (n := 5) (q := 52) (qa_e rfl h) rfl g5
          replace h := qa_aload (n := 0) (q := 53) (qa_e rfl h) rfl g0
          replace h := qa_gr (b := 4) (j := 0) (q := 56) (qa_e rfl h) rfl hM rfl (by decide)
          replace h := qa_gr (b := 25) (j := 8) (q := 59) (qa_e rfl h) rfl hM rfl (by decide)
          replace h := qa_iload (n := 1) (q := 60) (qa_e rfl h) rfl g1
          replace h := qa_iaload (jn := l1.toNatClampNeg) (q := 61) (qa_e rfl h) rfl hM es rfl
          obtain ⟨M, h, hM, es⟩ := qa_c1 (y := 50) (as := [.int ((m2 (75 + s.1.toNatClampNeg) l2.toNatClampNeg)), .int ((m2 25 l1.toNatClampNeg))]) (rest := [.int ((s.2.1 <<< ((7 : Int32) &&& 31)))]) (i := .invokestatic 50) (q := 64) (qa_e rfl h) (Or.inr rfl) rfl rfl (by decide) rfl (fun r hc => mb_50 hM es hc)
          replace h := qa_goto (q := 68) (qa_e rfl h) rfl
          exact ⟨lv, M, (qa_hi0 c3 h), hM, es, g0, g1, g2, g4⟩
      replace h := qa_ior (q := 69) (qa_e rfl h) rfl
      obtain ⟨lv, h, g, T⟩ := qa_istore (n := 3) (q := 70) (qa_e rfl h) rfl
      replace g0 := T _ _ g0 (by decide) (Or.inr rfl)
      replace g1 := T _ _ g1 (by decide) (Or.inr rfl)
      replace g2 := T _ _ g2 (by decide) (Or.inr rfl)
      replace g4 := T _ _ g4 (by decide) (Or.inr rfl)
      have g3 := g
      clear g T
      obtain ⟨lv, h, g, T⟩ := qa_iinc (n := 4) (z := (1 : Int32)) (q := 73) (qa_e rfl h) rfl (by decide) g4
      replace g0 := T _ _ g0 (by decide) (Or.inr rfl)
      replace g1 := T _ _ g1 (by decide) (Or.inr rfl)
      replace g2 := T _ _ g2 (by decide) (Or.inr rfl)
      replace g3 := T _ _ g3 (by decide) (Or.inr rfl)
      replace g4 := g
      clear g T
      replace h := qa_goto (q := 5) (qa_e rfl h) rfl
      have e0 : mc_126_3_p5 N l1 l2 s = .inl ((s.1 + (1 : Int32)), ((s.2.1 <<< ((7 : Int32) &&& 31)) ||| (if (ma_48 (m2 24 l1.toNatClampNeg) s.1) = (0 : Int32) then (0 : Int32) else (ma_50 (m2 (75 + s.1.toNatClampNeg) l2.toNatClampNeg) (m2 25 l1.toNatClampNeg)))), m2) := by exact Eq.trans (if_pos c1) (Eq.trans (qa_ie em2) (rfl))
      rw [qa_whl e0]
      exact ih n hn (Nat.le_of_succ_le hF) ((s.1 + (1 : Int32)), ((s.2.1 <<< ((7 : Int32) &&& 31)) ||| (if (ma_48 (m2 24 l1.toNatClampNeg) s.1) = (0 : Int32) then (0 : Int32) else (ma_50 (m2 (75 + s.1.toNatClampNeg) l2.toNatClampNeg) (m2 25 l1.toNatClampNeg)))), m2) _ _ hM es g0 g1 g2 g3 g4 h
    · replace h := qa_ift (q := 76) (qa_e rfl h) rfl (qa_T_ge c1)
      have e0 : mc_126_3_p5 N l1 l2 s = .inr (s.1, s.2.1, s.2.2) := by exact Eq.trans (if_neg c1) (rfl)
      rw [qa_whr e0]
      exact ⟨_, _, q61_mono f F _ _ _ _ _ _ _ _ (Nat.le_of_succ_le hF) h, hM, es, g3⟩
/-- BuriedBySevens, tellingOf, (II)I -/
noncomputable def ma_126_3 (N : Nat) (a1 : Int32) (a2 : Int32) (σ : qa_S) : Int32 × qa_S :=
  qa_in ((qa_wh (fun s => s) (mc_126_3_p5 N a1 a2) N ((0 : Int32), (1 : Int32), σ))) fun r1 =>
  (r1.2.1, r1.2.2)
theorem mb_126_3 {f N : Nat} (hN : f ≤ N) {M : q4_M} {r : Option Value × q4_M} {σ : qa_S} {a1 : Int32} {a2 : Int32} (hM : qa_O M) (es : qa_s M = σ) (h : q4_run f 126 0 (lv_args 0 [.ref 3, .int (a1), .int (a2)]) [] M 0 0 = some r) : r.1 = some (.int ((ma_126_3 N a1 a2 σ).1)) ∧ qa_O r.2 ∧ qa_s r.2 = (ma_126_3 N a1 a2 σ).2 := by
  obtain ⟨lv, el⟩ : ∃ l, l = lv_args 0 [.ref 3, .int (a1), .int (a2)] := ⟨_, rfl⟩
  have g0 : q4_get lv 0 = some (.ref 3) := by rw [el]; rfl
  have g1 : q4_get lv 1 = some (.int (a1)) := by rw [el]; rfl
  have g2 : q4_get lv 2 = some (.int (a2)) := by rw [el]; rfl
  rw [← el] at h
  clear el
  replace h := qa_push (z := (1 : Int32)) (q := 1) (qa_e rfl h) rfl (by decide)
  obtain ⟨lv, h, g, T⟩ := qa_istore (n := 3) (q := 2) (qa_e rfl h) rfl
  replace g0 := T _ _ g0 (by decide) (Or.inr rfl)
  replace g1 := T _ _ g1 (by decide) (Or.inr rfl)
  replace g2 := T _ _ g2 (by decide) (Or.inr rfl)
  have g3 := g
  clear g T
  replace h := qa_push (z := (0 : Int32)) (q := 3) (qa_e rfl h) rfl (by decide)
  obtain ⟨lv, h, g, T⟩ := qa_istore (n := 4) (q := 5) (qa_e rfl h) rfl
  replace g0 := T _ _ g0 (by decide) (Or.inr rfl)
  replace g1 := T _ _ g1 (by decide) (Or.inr rfl)
  replace g2 := T _ _ g2 (by decide) (Or.inr rfl)
  replace g3 := T _ _ g3 (by decide) (Or.inr rfl)
  have g4 := g
  clear g T
  obtain ⟨r1, er1⟩ : ∃ x, x = (qa_wh (fun s => s) (mc_126_3_p5 N a1 a2) N ((0 : Int32), (1 : Int32), σ)) := ⟨_, rfl⟩
  have L := md_126_3_p5 (l1 := a1) (l2 := a2) (F := f) (N := N) (r := r) hN f N hN (Nat.le_refl f) ((0 : Int32), (1 : Int32), σ) _ _ hM es g0 g1 g2 g3 g4 h
  rw [← er1] at L
  obtain ⟨lv, M, h, hM, es, g3⟩ := L
  replace h := qa_iload (n := 3) (q := 77) (qa_e rfl h) rfl g3
  have er := qa_ri (qa_e rfl h)
  subst er
  have e0 : ma_126_3 N a1 a2 σ = (r1.2.1, r1.2.2) := by exact Eq.trans (qa_ie er1) (rfl)
  rw [e0]
  exact ⟨rfl, hM, es⟩
noncomputable def mc_127_3_p11 (N : Nat) (l1 : Int32) (l2 : Int32) (s : Int32 × qa_S) : (Int32 × qa_S) ⊕ ((Int32 × qa_S) ⊕ (Int32 × qa_S)) :=
  if s.1 < (4096 : Int32) then
    if (s.2 98 ((l2 + s.1) &&& (4095 : Int32)).toNatClampNeg) = l1 then
      .inr (.inl ((0 : Int32), s.2))
    else
      if (s.2 98 ((l2 + s.1) &&& (4095 : Int32)).toNatClampNeg) = (0 : Int32) then
        qa_in (qa_u s.2 98 ((l2 + s.1) &&& (4095 : Int32)).toNatClampNeg l1) fun m4 =>
        .inr (.inl ((1 : Int32), m4))
      else
        .inl ((s.1 + (1 : Int32)), s.2)
  else
    .inr (.inr (s.1, s.2))
theorem md_127_3_p11 {N F : Nat} {r : Option Value × q4_M} {l1 : Int32} {l2 : Int32} (hN : F ≤ N) : ∀ f n, f ≤ n → f ≤ F → ∀ (s : Int32 × qa_S) (lv : List (Nat × Value)) (M : q4_M), qa_O M → qa_s M = s.2 → q4_get lv 0 = some (.ref 3) → q4_get lv 1 = some (.int (l1)) → q4_get lv 2 = some (.int (l2)) → q4_get lv 3 = some (.int (s.1)) → q4_run f 127 11 lv [] M 0 0 = some r → (∀ b, (qa_wh (fun s => .inr s) (mc_127_3_p11 N l1 l2) n s) = .inl b → r.1 = some (.int (b.1)) ∧ qa_O r.2 ∧ qa_s r.2 = b.2) ∧ (∀ b, (qa_wh (fun s => .inr s) (mc_127_3_p11 N l1 l2) n s) = .inr b → ∃ lv M, q4_run F 127 66 lv [] M 0 0 = some r ∧ qa_O M ∧ qa_s M = b.2) := by
  intro f
  induction f with
  | zero => intro n _ _ s lv M hM es _ _ _ _ h; cases h
  | succ f ih =>
    intro n hn hF s lv M hM es g0 g1 g2 g3 h
    obtain ⟨n, rfl⟩ : ∃ n1, n = n1 + 1 := ⟨n - 1, by omega⟩
    replace hn : f ≤ n := Nat.le_of_succ_le_succ hn
    have hN := Nat.le_trans (Nat.le_of_succ_le hF) hN
    replace h := qa_iload (n := 3) (q := 12) (qa_d rfl h) rfl g3
    replace h := qa_push (z := (4096 : Int32)) (q := 15) (qa_e rfl h) rfl (by decide)
    by_cases c1 : s.1 < (4096 : Int32)
    · replace h := qa_iff (q := 18) (qa_e rfl h) rfl (qa_F_ge c1)
      replace h := qa_iload (n := 2) (q := 19) (qa_e rfl h) rfl g2
      replace h := qa_iload (n := 3) (q := 20) (qa_e rfl h) rfl g3
      replace h := qa_iadd (q := 21) (qa_e rfl h) rfl
      replace h := qa_push (z := (4095 : Int32)) (q := 24) (qa_e rfl h) rfl (by decide)
      replace h := qa_iand (q := 25) (qa_e rfl h) rfl
      obtain ⟨lv, h, g, T⟩ := qa_istore (n := 4) (q := 27) (qa_e rfl h) rfl
      replace g0 := T _ _ g0 (by decide) (Or.inr rfl)
      replace g1 := T _ _ g1 (by decide) (Or.inr rfl)
      replace g2 := T _ _ g2 (by decide) (Or.inr rfl)
      replace g3 := T _ _ g3 (by decide) (Or.inr rfl)
      have g4 := g
      clear g T
      replace h := qa_aload (n := 0) (q := 28) (qa_e rfl h) rfl g0
      replace h := qa_gr (b := 98) (j := 15) (q := 31) (qa_e rfl h) rfl hM rfl (by decide)
      replace h := qa_iload (n := 4) (q := 33) (qa_e rfl h) rfl g4
      replace h := qa_iaload (jn := ((l2 + s.1) &&& (4095 : Int32)).toNatClampNeg) (q := 34) (qa_e rfl h) rfl hM es rfl
      replace h := qa_iload (n := 1) (q := 35) (qa_e rfl h) rfl g1
      by_cases c2 : (s.2 98 ((l2 + s.1) &&& (4095 : Int32)).toNatClampNeg) = l1
      · replace h := qa_iff (q := 38) (qa_e rfl h) rfl (qa_F_ne c2)
        replace h := qa_push (z := (0 : Int32)) (q := 39) (qa_e rfl h) rfl (by decide)
        have er := qa_ri (qa_e rfl h)
        subst er
        have e0 : mc_127_3_p11 N l1 l2 s = .inr (.inl ((0 : Int32), s.2)) := by exact Eq.trans (if_pos c1) (Eq.trans (if_pos c2) (rfl))
        rw [qa_whr e0]
        exact ⟨fun b hb => (by have e := Sum.inl.inj hb; subst e; exact ⟨rfl, hM, es⟩), fun b hb => nomatch hb⟩
      · replace h := qa_ift (q := 40) (qa_e rfl h) rfl (qa_T_ne c2)
        replace h := qa_aload (n := 0) (q := 41) (qa_e rfl h) rfl g0
        replace h := qa_gr (b := 98) (j := 15) (q := 44) (qa_e rfl h) rfl hM rfl (by decide)
        replace h := qa_iload (n := 4) (q := 46) (qa_e rfl h) rfl g4
        replace h := qa_iaload (jn := ((l2 + s.1) &&& (4095 : Int32)).toNatClampNeg) (q := 47) (qa_e rfl h) rfl hM es rfl
        by_cases c3 : (s.2 98 ((l2 + s.1) &&& (4095 : Int32)).toNatClampNeg) = (0 : Int32)
        · replace h := qa_icf (q := 50) (qa_e rfl h) rfl (qa_F_ne c3)
          replace h := qa_aload (n := 0) (q := 51) (qa_e rfl h) rfl g0
          replace h := qa_gr (b := 98) (j := 15) (q := 54) (qa_e rfl h) rfl hM rfl (by decide)
          replace h := qa_iload (n := 4) (q := 56) (qa_e rfl h) rfl g4
          replace h := qa_iload (n := 1) (q := 57) (qa_e rfl h) rfl g1
          obtain ⟨m4, em4⟩ : ∃ x, x = qa_u s.2 98 ((l2 + s.1) &&& (4095 : Int32)).toNatClampNeg l1 := ⟨_, rfl⟩
          obtain ⟨M, h, hM, es⟩ := qa_iastore (jn := ((l2 + s.1) &&& (4095 : Int32)).toNatClampNeg) (q := 58) (qa_e rfl h) rfl hM es rfl
          rw [← em4] at es
          replace h := qa_push (z := (1 : Int32)) (q := 59) (qa_e rfl h) rfl (by decide)
          have er := qa_ri (qa_e rfl h)
          subst er
          have e0 : mc_127_3_p11 N l1 l2 s = .inr (.inl ((1 : Int32), m4)) := by exact Eq.trans (if_pos c1) (Eq.trans (if_neg c2) (Eq.trans (if_pos c3) (Eq.trans (qa_ie em4) (rfl))))
          rw [qa_whr e0]
          exact ⟨fun b hb => (by have e := Sum.inl.inj hb; subst e; exact ⟨rfl, hM, es⟩), fun b hb => nomatch hb⟩
        · replace h := qa_ict (q := 60) (qa_e rfl h) rfl (qa_T_ne c3)
          obtain ⟨lv, h, g, T⟩ := qa_iinc (n := 3) (z := (1 : Int32)) (q := 63) (qa_e rfl h) rfl (by decide) g3
          replace g0 := T _ _ g0 (by decide) (Or.inr rfl)
          replace g1 := T _ _ g1 (by decide) (Or.inr rfl)
          replace g2 := T _ _ g2 (by decide) (Or.inr rfl)
          replace g3 := g
          clear g T
          replace h := qa_goto (q := 11) (qa_e rfl h) rfl
          have e0 : mc_127_3_p11 N l1 l2 s = .inl ((s.1 + (1 : Int32)), s.2) := by exact Eq.trans (if_pos c1) (Eq.trans (if_neg c2) (Eq.trans (if_neg c3) (rfl)))
          rw [qa_whl e0]
          exact ih n hn (Nat.le_of_succ_le hF) ((s.1 + (1 : Int32)), s.2) _ _ hM es g0 g1 g2 g3 h
    · replace h := qa_ift (q := 66) (qa_e rfl h) rfl (qa_T_ge c1)
      have e0 : mc_127_3_p11 N l1 l2 s = .inr (.inr (s.1, s.2)) := by exact Eq.trans (if_neg c1) (rfl)
      rw [qa_whr e0]
      exact ⟨fun b hb => (nomatch hb), fun b hb => (by have e := Sum.inr.inj hb; subst e; exact ⟨_, _, q61_mono f F _ _ _ _ _ _ _ _ (Nat.le_of_succ_le hF) h, hM, es⟩)⟩
/-- BuriedBySevens, isNew, (I)Z -/
noncomputable def ma_127_3 (N : Nat) (a1 : Int32) (σ : qa_S) : Int32 × qa_S :=
  qa_in ((qa_wh (fun s => .inr s) (mc_127_3_p11 N a1 (((a1 * (-1640531535 : Int32))).toUInt32 >>> (((20 : Int32)).toUInt32 &&& Int32.toUInt32 31)).toInt32) N ((0 : Int32), σ))) fun r1 =>
  qa_cs r1
    (fun b2 =>
      (b2.1, b2.2))
    (fun b2 =>
      ((0 : Int32), b2.2))
theorem mb_127_3 {f N : Nat} (hN : f ≤ N) {M : q4_M} {r : Option Value × q4_M} {σ : qa_S} {a1 : Int32} (hM : qa_O M) (es : qa_s M = σ) (h : q4_run f 127 0 (lv_args 0 [.ref 3, .int (a1)]) [] M 0 0 = some r) : r.1 = some (.int ((ma_127_3 N a1 σ).1)) ∧ qa_O r.2 ∧ qa_s r.2 = (ma_127_3 N a1 σ).2 := by
  obtain ⟨lv, el⟩ : ∃ l, l = lv_args 0 [.ref 3, .int (a1)] := ⟨_, rfl⟩
  have g0 : q4_get lv 0 = some (.ref 3) := by rw [el]; rfl
  have g1 : q4_get lv 1 = some (.int (a1)) := by rw [el]; rfl
  rw [← el] at h
  clear el
  replace h := qa_iload (n := 1) (q := 1) (qa_e rfl h) rfl g1
  replace h := qa_push (z := (-1640531535 : Int32)) (q := 4) (qa_e rfl h) rfl (by decide)
  replace h := qa_imul (q := 5) (qa_e rfl h) rfl
  replace h := qa_push (z := (20 : Int32)) (q := 7) (qa_e rfl h) rfl (by decide)
  replace h := qa_iushr (q := 8) (qa_e rfl h) rfl
  obtain ⟨lv, h, g, T⟩ := qa_istore (n := 2) (q := 9) (qa_e rfl h) rfl
  replace g0 := T _ _ g0 (by decide) (Or.inr rfl)
  replace g1 := T _ _ g1 (by decide) (Or.inr rfl)
  have g2 := g
  clear g T
  replace h := qa_push (z := (0 : Int32)) (q := 10) (qa_e rfl h) rfl (by decide)
  obtain ⟨lv, h, g, T⟩ := qa_istore (n := 3) (q := 11) (qa_e rfl h) rfl
  replace g0 := T _ _ g0 (by decide) (Or.inr rfl)
  replace g1 := T _ _ g1 (by decide) (Or.inr rfl)
  replace g2 := T _ _ g2 (by decide) (Or.inr rfl)
  have g3 := g
  clear g T
  obtain ⟨r1, er1⟩ : ∃ x, x = (qa_wh (fun s => .inr s) (mc_127_3_p11 N a1 (((a1 * (-1640531535 : Int32))).toUInt32 >>> (((20 : Int32)).toUInt32 &&& Int32.toUInt32 31)).toInt32) N ((0 : Int32), σ)) := ⟨_, rfl⟩
  have L := md_127_3_p11 (l1 := a1) (l2 := (((a1 * (-1640531535 : Int32))).toUInt32 >>> (((20 : Int32)).toUInt32 &&& Int32.toUInt32 31)).toInt32) (F := f) (N := N) (r := r) hN f N hN (Nat.le_refl f) ((0 : Int32), σ) _ _ hM es g0 g1 g2 g3 h
  rw [← er1] at L
  rcases qr1 : r1 with b2 | b2
  · obtain ⟨h, hM, es⟩ := L.1 b2 qr1
    have e0 : ma_127_3 N a1 σ = (b2.1, b2.2) := by exact Eq.trans (qa_ie er1) (Eq.trans (qa_csl qr1 _ _) (rfl))
    rw [e0]
    exact ⟨h, hM, es⟩
  · obtain ⟨lv, M, h, hM, es⟩ := L.2 b2 qr1
    replace h := qa_push (z := (0 : Int32)) (q := 67) (qa_e rfl h) rfl (by decide)
    have er := qa_ri (qa_e rfl h)
    subst er
    have e0 : ma_127_3 N a1 σ = ((0 : Int32), b2.2) := by exact Eq.trans (qa_ie er1) (Eq.trans (qa_csr qr1 _ _) (rfl))
    rw [e0]
    exact ⟨rfl, hM, es⟩
noncomputable def mc_125_3_p29 (N : Nat) (l1 : Int32) (s : Int32 × Int32 × qa_S) : (Int32 × Int32 × qa_S) ⊕ (Int32 × Int32 × qa_S) :=
  qa_in ((ma_72_3 N s.2.2)) fun m1 =>
  if s.1 < (m1 73 1) then
    qa_in ((ma_126_3 N l1 s.1 m1)) fun r3 =>
    qa_in ((ma_127_3 N r3.1 r3.2)) fun r4 =>
    .inl ((s.1 + (1 : Int32)), (if r4.1 = (0 : Int32) then s.2.1 else (s.2.1 + (1 : Int32))), r4.2)
  else
    .inr (s.1, s.2.1, m1)
theorem md_125_3_p29 {N F : Nat} {r : Option Value × q4_M} {l1 : Int32} (hN : F ≤ N) : ∀ f n, f ≤ n → f ≤ F → ∀ (s : Int32 × Int32 × qa_S) (lv : List (Nat × Value)) (M : q4_M), qa_O M → qa_s M = s.2.2 → q4_get lv 0 = some (.ref 3) → q4_get lv 1 = some (.int (l1)) → q4_get lv 2 = some (.int (s.2.1)) → q4_get lv 3 = some (.int (s.1)) → q4_run f 125 29 lv [] M 0 0 = some r → ∃ lv M, q4_run F 125 62 lv [] M 0 0 = some r ∧ qa_O M ∧ qa_s M = (qa_wh (fun s => s) (mc_125_3_p29 N l1) n s).2.2 ∧ q4_get lv 2 = some (.int ((qa_wh (fun s => s) (mc_125_3_p29 N l1) n s).2.1)) := by
  intro f
  induction f with
  | zero => intro n _ _ s lv M hM es _ _ _ _ h; cases h
  | succ f ih =>
    intro n hn hF s lv M hM es g0 g1 g2 g3 h
    obtain ⟨n, rfl⟩ : ∃ n1, n = n1 + 1 := ⟨n - 1, by omega⟩
    replace hn : f ≤ n := Nat.le_of_succ_le_succ hn
    have hN := Nat.le_trans (Nat.le_of_succ_le hF) hN
    replace h := qa_iload (n := 3) (q := 30) (qa_d rfl h) rfl g3
    replace h := qa_aload (n := 0) (q := 31) (qa_e rfl h) rfl g0
    obtain ⟨m1, em1⟩ : ∃ x, x = (ma_72_3 N s.2.2) := ⟨_, rfl⟩
    obtain ⟨M, h, hM, es⟩ := qa_c1 (y := 72) (as := [.ref 3]) (rest := [.int (s.1)]) (i := .invokevirtual 72) (q := 34) (qa_e rfl h) (Or.inl rfl) rfl rfl (by decide) rfl (fun r hc => mb_72_3 hN hM es hc)
    rw [← em1] at es
    replace h := qa_gi (j := 1) (q := 37) (qa_e rfl h) rfl hM es rfl (by decide)
    by_cases c2 : s.1 < (m1 73 1)
    · replace h := qa_iff (q := 40) (qa_e rfl h) rfl (qa_F_ge c2)
      replace h := qa_aload (n := 0) (q := 41) (qa_e rfl h) rfl g0
      replace h := qa_aload (n := 0) (q := 42) (qa_e rfl h) rfl g0
      replace h := qa_iload (n := 1) (q := 43) (qa_e rfl h) rfl g1
      replace h := qa_iload (n := 3) (q := 44) (qa_e rfl h) rfl g3
      obtain ⟨r3, er3⟩ : ∃ x, x = (ma_126_3 N l1 s.1 m1) := ⟨_, rfl⟩
      obtain ⟨M, h, hM, es⟩ := qa_c1 (y := 126) (as := [.ref 3, .int (l1), .int (s.1)]) (rest := [.ref 3]) (i := .invokevirtual 126) (q := 47) (qa_e rfl h) (Or.inl rfl) rfl rfl (by decide) rfl (fun r hc => mb_126_3 hN hM es hc)
      rw [← er3] at h es
      obtain ⟨r4, er4⟩ : ∃ x, x = (ma_127_3 N r3.1 r3.2) := ⟨_, rfl⟩
      obtain ⟨M, h, hM, es⟩ := qa_c1 (y := 127) (as := [.ref 3, .int (r3.1)]) (rest := []) (i := .invokevirtual 127) (q := 50) (qa_e rfl h) (Or.inl rfl) rfl rfl (by decide) rfl (fun r hc => mb_127_3 hN hM es hc)
      rw [← er4] at h es
      obtain ⟨lv, M, h, hM, es, g0, g1, g2, g3⟩ : ∃ lv M, q4_run f 125 56 lv [] M 0 0 = some r ∧ qa_O M ∧ qa_s M = r4.2 ∧ q4_get lv 0 = some (.ref 3) ∧ q4_get lv 1 = some (.int (l1)) ∧ q4_get lv 2 = some (.int ((if r4.1 = (0 : Int32) then s.2.1 else (s.2.1 + (1 : Int32))))) ∧ q4_get lv 3 = some (.int (s.1)) := by
        by_cases c5 : r4.1 = (0 : Int32)
        · replace h := qa_ict (q := 56) (qa_e rfl h) rfl (qa_T_eq c5)
          exact ⟨lv, M, h, hM, es, g0, g1, (qa_gi1 c5 g2), g3⟩
        · replace h := qa_icf (q := 53) (qa_e rfl h) rfl (qa_F_eq c5)
          obtain ⟨lv, h, g, T⟩ := qa_iinc (n := 2) (z := (1 : Int32)) (q := 56) (qa_e rfl h) rfl (by decide) g2
          replace g0 := T _ _ g0 (by decide) (Or.inr rfl)
          replace g1 := T _ _ g1 (by decide) (Or.inr rfl)
          replace g3 := T _ _ g3 (by decide) (Or.inr rfl)
          replace g2 := g
          clear g T
          exact ⟨lv, M, h, hM, es, g0, g1, (qa_gi0 c5 g2), g3⟩
      obtain ⟨lv, h, g, T⟩ := qa_iinc (n := 3) (z := (1 : Int32)) (q := 59) (qa_e rfl h) rfl (by decide) g3
      replace g0 := T _ _ g0 (by decide) (Or.inr rfl)
      replace g1 := T _ _ g1 (by decide) (Or.inr rfl)
      replace g2 := T _ _ g2 (by decide) (Or.inr rfl)
      replace g3 := g
      clear g T
      replace h := qa_goto (q := 29) (qa_e rfl h) rfl
      have e0 : mc_125_3_p29 N l1 s = .inl ((s.1 + (1 : Int32)), (if r4.1 = (0 : Int32) then s.2.1 else (s.2.1 + (1 : Int32))), r4.2) := by exact Eq.trans (qa_ie em1) (Eq.trans (if_pos c2) (Eq.trans (qa_ie er3) (Eq.trans (qa_ie er4) (rfl))))
      rw [qa_whl e0]
      exact ih n hn (Nat.le_of_succ_le hF) ((s.1 + (1 : Int32)), (if r4.1 = (0 : Int32) then s.2.1 else (s.2.1 + (1 : Int32))), r4.2) _ _ hM es g0 g1 g2 g3 h
    · replace h := qa_ift (q := 62) (qa_e rfl h) rfl (qa_T_ge c2)
      have e0 : mc_125_3_p29 N l1 s = .inr (s.1, s.2.1, m1) := by exact Eq.trans (qa_ie em1) (Eq.trans (if_neg c2) (rfl))
      rw [qa_whr e0]
      exact ⟨_, _, q61_mono f F _ _ _ _ _ _ _ _ (Nat.le_of_succ_le hF) h, hM, es, g2⟩
/-- BuriedBySevens, kinds, (I)I -/
noncomputable def ma_125_3 (N : Nat) (a1 : Int32) (σ : qa_S) : Int32 × qa_S :=
  if (ma_33_4 a1 σ) = (0 : Int32) then
    qa_in ((ma_9_3 (-1 : Int32) σ)) fun r2 =>
    (r2.1, r2.2)
  else
    qa_in ((ma_68_98 N (0 : Int32) σ)) fun m3 =>
    qa_in ((qa_wh (fun s => s) (mc_125_3_p29 N a1) N ((1 : Int32), (0 : Int32), m3))) fun r4 =>
    (r4.2.1, r4.2.2)
theorem mb_125_3 {f N : Nat} (hN : f ≤ N) {M : q4_M} {r : Option Value × q4_M} {σ : qa_S} {a1 : Int32} (hM : qa_O M) (es : qa_s M = σ) (h : q4_run f 125 0 (lv_args 0 [.ref 3, .int (a1)]) [] M 0 0 = some r) : r.1 = some (.int ((ma_125_3 N a1 σ).1)) ∧ qa_O r.2 ∧ qa_s r.2 = (ma_125_3 N a1 σ).2 := by
  obtain ⟨lv, el⟩ : ∃ l, l = lv_args 0 [.ref 3, .int (a1)] := ⟨_, rfl⟩
  have g0 : q4_get lv 0 = some (.ref 3) := by rw [el]; rfl
  have g1 : q4_get lv 1 = some (.int (a1)) := by rw [el]; rfl
  rw [← el] at h
  clear el
  replace h := qa_aload (n := 0) (q := 1) (qa_e rfl h) rfl g0
  replace h := qa_gr (b := 4) (j := 0) (q := 4) (qa_e rfl h) rfl hM rfl (by decide)
  replace h := qa_iload (n := 1) (q := 5) (qa_e rfl h) rfl g1
  obtain ⟨M, h, hM, es⟩ := qa_c1 (y := 33) (as := [.ref 4, .int (a1)]) (rest := []) (i := .invokevirtual 33) (q := 8) (qa_e rfl h) (Or.inl rfl) rfl rfl (by decide) rfl (fun r hc => mb_33_4 hM es hc)
  by_cases c1 : (ma_33_4 a1 σ) = (0 : Int32)
  · replace h := qa_icf (q := 11) (qa_e rfl h) rfl (qa_F_ne c1)
    replace h := qa_aload (n := 0) (q := 12) (qa_e rfl h) rfl g0
    replace h := qa_push (z := (-1 : Int32)) (q := 13) (qa_e rfl h) rfl (by decide)
    obtain ⟨r2, er2⟩ : ∃ x, x = (ma_9_3 (-1 : Int32) σ) := ⟨_, rfl⟩
    obtain ⟨M, h, hM, es⟩ := qa_c1 (y := 9) (as := [.ref 3, .int ((-1 : Int32))]) (rest := []) (i := .invokevirtual 9) (q := 16) (qa_e rfl h) (Or.inl rfl) rfl rfl (by decide) rfl (fun r hc => mb_9_3 hM es hc)
    rw [← er2] at h es
    have er := qa_ri (qa_e rfl h)
    subst er
    have e0 : ma_125_3 N a1 σ = (r2.1, r2.2) := by exact Eq.trans (if_pos c1) (Eq.trans (qa_ie er2) (rfl))
    rw [e0]
    exact ⟨rfl, hM, es⟩
  · replace h := qa_ict (q := 17) (qa_e rfl h) rfl (qa_T_ne c1)
    replace h := qa_aload (n := 0) (q := 18) (qa_e rfl h) rfl g0
    replace h := qa_gr (b := 98) (j := 15) (q := 21) (qa_e rfl h) rfl hM rfl (by decide)
    replace h := qa_push (z := (0 : Int32)) (q := 22) (qa_e rfl h) rfl (by decide)
    obtain ⟨m3, em3⟩ : ∃ x, x = (ma_68_98 N (0 : Int32) σ) := ⟨_, rfl⟩
    obtain ⟨M, h, hM, es⟩ := qa_c0 (y := 68) (as := [.ref 98, .int ((0 : Int32))]) (rest := []) (i := .invokestatic 68) (q := 25) (qa_e rfl h) (Or.inr rfl) rfl rfl (by decide) rfl (fun r hc => mb_68_98 hN hM es hc)
    rw [← em3] at es
    replace h := qa_push (z := (0 : Int32)) (q := 26) (qa_e rfl h) rfl (by decide)
    obtain ⟨lv, h, g, T⟩ := qa_istore (n := 2) (q := 27) (qa_e rfl h) rfl
    replace g0 := T _ _ g0 (by decide) (Or.inr rfl)
    replace g1 := T _ _ g1 (by decide) (Or.inr rfl)
    have g2 := g
    clear g T
    replace h := qa_push (z := (1 : Int32)) (q := 28) (qa_e rfl h) rfl (by decide)
    obtain ⟨lv, h, g, T⟩ := qa_istore (n := 3) (q := 29) (qa_e rfl h) rfl
    replace g0 := T _ _ g0 (by decide) (Or.inr rfl)
    replace g1 := T _ _ g1 (by decide) (Or.inr rfl)
    replace g2 := T _ _ g2 (by decide) (Or.inr rfl)
    have g3 := g
    clear g T
    obtain ⟨r4, er4⟩ : ∃ x, x = (qa_wh (fun s => s) (mc_125_3_p29 N a1) N ((1 : Int32), (0 : Int32), m3)) := ⟨_, rfl⟩
    have L := md_125_3_p29 (l1 := a1) (F := f) (N := N) (r := r) hN f N hN (Nat.le_refl f) ((1 : Int32), (0 : Int32), m3) _ _ hM es g0 g1 g2 g3 h
    rw [← er4] at L
    obtain ⟨lv, M, h, hM, es, g2⟩ := L
    replace h := qa_iload (n := 2) (q := 63) (qa_e rfl h) rfl g2
    have er := qa_ri (qa_e rfl h)
    subst er
    have e0 : ma_125_3 N a1 σ = (r4.2.1, r4.2.2) := by exact Eq.trans (if_neg c1) (Eq.trans (qa_ie em3) (Eq.trans (qa_ie er4) (rfl)))
    rw [e0]
    exact ⟨rfl, hM, es⟩
noncomputable def mc_128_3_p57 (N : Nat) (l1 : Int32) (l2 : Int32) (s : Int32 × Int32 × qa_S) : (Int32 × Int32 × qa_S) ⊕ (Int32 × Int32 × qa_S) :=
  if s.1 < (s.2.2 4 0) then
    qa_in ((ma_117_3 N s.1 (ma_71 ((s.2.2 7 s.1.toNatClampNeg) + l2) (9 : Int32)) s.2.2)) fun m3 =>
    qa_in ((ma_99_3 N 94 95 m3)) fun r4 =>
    qa_in ((if s.1 = l1 then s.2.2 else m3)) fun m6 =>
    .inl ((s.1 + (1 : Int32)), (if s.1 = l1 then s.2.1 else (if r4 = (0 : Int32) then (s.2.1 ||| ((1 : Int32) <<< (s.1 &&& 31))) else s.2.1)), m6)
  else
    .inr (s.1, s.2.1, s.2.2)
theorem md_128_3_p57 {N F : Nat} {r : Option Value × q4_M} {l1 : Int32} {l2 : Int32} (hN : F ≤ N) : ∀ f n, f ≤ n → f ≤ F → ∀ (s : Int32 × Int32 × qa_S) (lv : List (Nat × Value)) (M : q4_M), qa_O M → qa_s M = s.2.2 → q4_get lv 0 = some (.ref 3) → q4_get lv 1 = some (.int (l1)) → q4_get lv 2 = some (.int (l2)) → q4_get lv 3 = some (.int (s.2.1)) → q4_get lv 4 = some (.int (s.1)) → q4_run f 128 57 lv [] M 0 0 = some r → ∃ lv M, q4_run F 128 129 lv [] M 0 0 = some r ∧ qa_O M ∧ qa_s M = (qa_wh (fun s => s) (mc_128_3_p57 N l1 l2) n s).2.2 ∧ q4_get lv 0 = some (.ref 3) ∧ q4_get lv 1 = some (.int (l1)) ∧ q4_get lv 2 = some (.int (l2)) ∧ q4_get lv 3 = some (.int ((qa_wh (fun s => s) (mc_128_3_p57 N l1 l2) n s).2.1)) := by
  intro f
  induction f with
  | zero => intro n _ _ s lv M hM es _ _ _ _ _ h; cases h
  | succ f ih =>
    intro n hn hF s lv M hM es g0 g1 g2 g3 g4 h
    obtain ⟨n, rfl⟩ : ∃ n1, n = n1 + 1 := ⟨n - 1, by omega⟩
    replace hn : f ≤ n := Nat.le_of_succ_le_succ hn
    have hN := Nat.le_trans (Nat.le_of_succ_le hF) hN
    replace h := qa_iload (n := 4) (q := 59) (qa_d rfl h) rfl g4
    replace h := qa_aload (n := 0) (q := 60) (qa_e rfl h) rfl g0
    replace h := qa_gr (b := 4) (j := 0) (q := 63) (qa_e rfl h) rfl hM rfl (by decide)
    replace h := qa_gi (j := 0) (q := 66) (qa_e rfl h) rfl hM es rfl (by decide)
    by_cases c1 : s.1 < (s.2.2 4 0)
    · replace h := qa_iff (q := 69) (qa_e rfl h) rfl (qa_F_ge c1)
      replace h := qa_iload (n := 4) (q := 71) (qa_e rfl h) rfl g4
      replace h := qa_iload (n := 1) (q := 72) (qa_e rfl h) rfl g1
      obtain ⟨m3, em3⟩ : ∃ x, x = (ma_117_3 N s.1 (ma_71 ((s.2.2 7 s.1.toNatClampNeg) + l2) (9 : Int32)) s.2.2) := ⟨_, rfl⟩
      obtain ⟨r4, er4⟩ : ∃ x, x = (ma_99_3 N 94 95 m3) := ⟨_, rfl⟩
      obtain ⟨m6, em6⟩ : ∃ x, x = (if s.1 = l1 then s.2.2 else m3) := ⟨_, rfl⟩
      obtain ⟨lv, M, h, hM, es, g0, g1, g2, g3, g4⟩ : ∃ lv M, q4_run f 128 123 lv [] M 0 0 = some r ∧ qa_O M ∧ qa_s M = m6 ∧ q4_get lv 0 = some (.ref 3) ∧ q4_get lv 1 = some (.int (l1)) ∧ q4_get lv 2 = some (.int (l2)) ∧ q4_get lv 3 = some (.int ((if s.1 = l1 then s.2.1 else (if r4 = (0 : Int32) then (s.2.1 ||| ((1 : Int32) <<< (s.1 &&& 31))) else s.2.1)))) ∧ q4_get lv 4 = some (.int (s.1)) := by
        by_cases c2 : s.1 = l1
        · replace h := qa_iff (q := 75) (qa_e rfl h) rfl (qa_F_ne c2)
          replace h := qa_goto (q := 123) (qa_e rfl h) rfl
          exact ⟨lv, M, h, hM, ((qa_ms1 c2 es).trans em6.symm), g0, g1, g2, (qa_gi1 c2 g3), g4⟩
        · replace h := qa_ift (q := 78) (qa_e rfl h) rfl (qa_T_ne c2)
          replace h := qa_aload (n := 0) (q := 79) (qa_e rfl h) rfl g0
          replace h := qa_iload (n := 4) (q := 81) (qa_e rfl h) rfl g4
          replace h := qa_aload (n := 0) (q := 82) (qa_e rfl h) rfl g0
          replace h := qa_gr (b := 4) (j := 0) (q := 85) (qa_e rfl h) rfl hM rfl (by decide)
          replace h := qa_gr (b := 7) (j := 4) (q := 88) (qa_e rfl h) rfl hM rfl (by decide)
          replace h := qa_iload (n := 4) (q := 90) (qa_e rfl h) rfl g4
          replace h := qa_iaload (jn := s.1.toNatClampNeg) (q := 91) (qa_e rfl h) rfl hM es rfl
          replace h := qa_iload (n := 2) (q := 92) (qa_e rfl h) rfl g2
          replace h := qa_iadd (q := 93) (qa_e rfl h) rfl
          replace h := qa_push (z := (9 : Int32)) (q := 95) (qa_e rfl h) rfl (by decide)
          obtain ⟨M, h, hM, es⟩ := qa_c1 (y := 71) (as := [.int (((s.2.2 7 s.1.toNatClampNeg) + l2)), .int ((9 : Int32))]) (rest := [.int (s.1), .ref 3]) (i := .invokestatic 71) (q := 98) (qa_e rfl h) (Or.inr rfl) rfl rfl (by decide) rfl (fun r hc => mb_71 hM es hc)
          obtain ⟨M, h, hM, es⟩ := qa_c0 (y := 117) (as := [.ref 3, .int (s.1), .int ((ma_71 ((s.2.2 7 s.1.toNatClampNeg) + l2) (9 : Int32)))]) (rest := []) (i := .invokevirtual 117) (q := 101) (qa_e rfl h) (Or.inl rfl) rfl rfl (by decide) rfl (fun r hc => mb_117_3 hN hM es hc)
          rw [← em3] at es
          replace h := qa_aload (n := 0) (q := 102) (qa_e rfl h) rfl g0
          replace h := qa_aload (n := 0) (q := 103) (qa_e rfl h) rfl g0
          replace h := qa_gr (b := 94) (j := 11) (q := 106) (qa_e rfl h) rfl hM rfl (by decide)
          replace h := qa_aload (n := 0) (q := 107) (qa_e rfl h) rfl g0
          replace h := qa_gr (b := 95) (j := 12) (q := 110) (qa_e rfl h) rfl hM rfl (by decide)
          obtain ⟨M, h, hM, es⟩ := qa_c1 (y := 99) (as := [.ref 3, .ref 94, .ref 95]) (rest := []) (i := .invokevirtual 99) (q := 113) (qa_e rfl h) (Or.inl rfl) rfl rfl (by decide) rfl (fun r hc => mb_99_3 hN hM es hc)
          rw [← er4] at h
          obtain ⟨lv, M, h, hM, es, g0, g1, g2, g3, g4⟩ : ∃ lv M, q4_run f 128 123 lv [] M 0 0 = some r ∧ qa_O M ∧ qa_s M = m3 ∧ q4_get lv 0 = some (.ref 3) ∧ q4_get lv 1 = some (.int (l1)) ∧ q4_get lv 2 = some (.int (l2)) ∧ q4_get lv 3 = some (.int ((if r4 = (0 : Int32) then (s.2.1 ||| ((1 : Int32) <<< (s.1 &&& 31))) else s.2.1))) ∧ q4_get lv 4 = some (.int (s.1)) := by
            by_cases c5 : r4 = (0 : Int32)
            · replace h := qa_icf (q := 116) (qa_e rfl h) rfl (qa_F_ne c5)
              replace h := qa_iload (n := 3) (q := 117) (qa_e rfl h) rfl g3
              replace h := qa_push (z := (1 : Int32)) (q := 118) (qa_e rfl h) rfl (by decide)
              replace h := qa_iload (n := 4) (q := 120) (qa_e rfl h) rfl g4
              replace h := qa_ishl (q := 121) (qa_e rfl h) rfl
              replace h := qa_ior (q := 122) (qa_e rfl h) rfl
              obtain ⟨lv, h, g, T⟩ := qa_istore (n := 3) (q := 123) (qa_e rfl h) rfl
              replace g0 := T _ _ g0 (by decide) (Or.inr rfl)
              replace g1 := T _ _ g1 (by decide) (Or.inr rfl)
              replace g2 := T _ _ g2 (by decide) (Or.inr rfl)
              replace g4 := T _ _ g4 (by decide) (Or.inr rfl)
              have g3 := g
              clear g T
              exact ⟨lv, M, h, hM, es, g0, g1, g2, (qa_gi1 c5 g3), g4⟩
            · replace h := qa_ict (q := 123) (qa_e rfl h) rfl (qa_T_ne c5)
              exact ⟨lv, M, h, hM, es, g0, g1, g2, (qa_gi0 c5 g3), g4⟩
          exact ⟨lv, M, h, hM, ((qa_ms0 c2 es).trans em6.symm), g0, g1, g2, (qa_gi0 c2 g3), g4⟩
      obtain ⟨lv, h, g, T⟩ := qa_iinc (n := 4) (z := (1 : Int32)) (q := 126) (qa_e rfl h) rfl (by decide) g4
      replace g0 := T _ _ g0 (by decide) (Or.inr rfl)
      replace g1 := T _ _ g1 (by decide) (Or.inr rfl)
      replace g2 := T _ _ g2 (by decide) (Or.inr rfl)
      replace g3 := T _ _ g3 (by decide) (Or.inr rfl)
      replace g4 := g
      clear g T
      replace h := qa_goto (q := 57) (qa_e rfl h) rfl
      have e0 : mc_128_3_p57 N l1 l2 s = .inl ((s.1 + (1 : Int32)), (if s.1 = l1 then s.2.1 else (if r4 = (0 : Int32) then (s.2.1 ||| ((1 : Int32) <<< (s.1 &&& 31))) else s.2.1)), m6) := by exact Eq.trans (if_pos c1) (Eq.trans (qa_ie em3) (Eq.trans (qa_ie er4) (Eq.trans (qa_ie em6) (rfl))))
      rw [qa_whl e0]
      exact ih n hn (Nat.le_of_succ_le hF) ((s.1 + (1 : Int32)), (if s.1 = l1 then s.2.1 else (if r4 = (0 : Int32) then (s.2.1 ||| ((1 : Int32) <<< (s.1 &&& 31))) else s.2.1)), m6) _ _ hM es g0 g1 g2 g3 g4 h
    · replace h := qa_ift (q := 129) (qa_e rfl h) rfl (qa_T_ge c1)
      have e0 : mc_128_3_p57 N l1 l2 s = .inr (s.1, s.2.1, s.2.2) := by exact Eq.trans (if_neg c1) (rfl)
      rw [qa_whr e0]
      exact ⟨_, _, q61_mono f F _ _ _ _ _ _ _ _ (Nat.le_of_succ_le hF) h, hM, es, g0, g1, g2, g3⟩
/-- BuriedBySevens, substitutes, (I)I -/
noncomputable def ma_128_3 (N : Nat) (a1 : Int32) (σ : qa_S) : Int32 × qa_S :=
  if (ma_22_4 a1 σ) = (0 : Int32) then
    qa_in ((ma_9_3 (-1 : Int32) σ)) fun r2 =>
    (r2.1, r2.2)
  else
    if (σ 7 a1.toNatClampNeg) = (0 : Int32) then
      qa_in ((ma_9_3 (-3 : Int32) σ)) fun r4 =>
      (r4.1, r4.2)
    else
      qa_in ((ma_46_3 N σ)) fun m5 =>
      qa_in (qa_u m5 7 a1.toNatClampNeg (0 : Int32)) fun m6 =>
      qa_in ((qa_wh (fun s => s) (mc_128_3_p57 N a1 (σ 7 a1.toNatClampNeg)) N ((0 : Int32), (0 : Int32), m6))) fun r7 =>
      qa_in (qa_u r7.2.2 7 a1.toNatClampNeg (σ 7 a1.toNatClampNeg)) fun m8 =>
      (r7.2.1, m8)
theorem mb_128_3 {f N : Nat} (hN : f ≤ N) {M : q4_M} {r : Option Value × q4_M} {σ : qa_S} {a1 : Int32} (hM : qa_O M) (es : qa_s M = σ) (h : q4_run f 128 0 (lv_args 0 [.ref 3, .int (a1)]) [] M 0 0 = some r) : r.1 = some (.int ((ma_128_3 N a1 σ).1)) ∧ qa_O r.2 ∧ qa_s r.2 = (ma_128_3 N a1 σ).2 := by
  obtain ⟨lv, el⟩ : ∃ l, l = lv_args 0 [.ref 3, .int (a1)] := ⟨_, rfl⟩
  have g0 : q4_get lv 0 = some (.ref 3) := by rw [el]; rfl
  have g1 : q4_get lv 1 = some (.int (a1)) := by rw [el]; rfl
  rw [← el] at h
  clear el
  replace h := qa_aload (n := 0) (q := 1) (qa_e rfl h) rfl g0
  replace h := qa_gr (b := 4) (j := 0) (q := 4) (qa_e rfl h) rfl hM rfl (by decide)
  replace h := qa_iload (n := 1) (q := 5) (qa_e rfl h) rfl g1
  obtain ⟨M, h, hM, es⟩ := qa_c1 (y := 22) (as := [.ref 4, .int (a1)]) (rest := []) (i := .invokevirtual 22) (q := 8) (qa_e rfl h) (Or.inl rfl) rfl rfl (by decide) rfl (fun r hc => mb_22_4 hM es hc)
  by_cases c1 : (ma_22_4 a1 σ) = (0 : Int32)
  · replace h := qa_icf (q := 11) (qa_e rfl h) rfl (qa_F_ne c1)
    replace h := qa_aload (n := 0) (q := 12) (qa_e rfl h) rfl g0
    replace h := qa_push (z := (-1 : Int32)) (q := 13) (qa_e rfl h) rfl (by decide)
    obtain ⟨r2, er2⟩ : ∃ x, x = (ma_9_3 (-1 : Int32) σ) := ⟨_, rfl⟩
    obtain ⟨M, h, hM, es⟩ := qa_c1 (y := 9) (as := [.ref 3, .int ((-1 : Int32))]) (rest := []) (i := .invokevirtual 9) (q := 16) (qa_e rfl h) (Or.inl rfl) rfl rfl (by decide) rfl (fun r hc => mb_9_3 hM es hc)
    rw [← er2] at h es
    have er := qa_ri (qa_e rfl h)
    subst er
    have e0 : ma_128_3 N a1 σ = (r2.1, r2.2) := by exact Eq.trans (if_pos c1) (Eq.trans (qa_ie er2) (rfl))
    rw [e0]
    exact ⟨rfl, hM, es⟩
  · replace h := qa_ict (q := 17) (qa_e rfl h) rfl (qa_T_ne c1)
    replace h := qa_aload (n := 0) (q := 18) (qa_e rfl h) rfl g0
    replace h := qa_gr (b := 4) (j := 0) (q := 21) (qa_e rfl h) rfl hM rfl (by decide)
    replace h := qa_gr (b := 7) (j := 4) (q := 24) (qa_e rfl h) rfl hM rfl (by decide)
    replace h := qa_iload (n := 1) (q := 25) (qa_e rfl h) rfl g1
    replace h := qa_iaload (jn := a1.toNatClampNeg) (q := 26) (qa_e rfl h) rfl hM es rfl
    obtain ⟨lv, h, g, T⟩ := qa_istore (n := 2) (q := 27) (qa_e rfl h) rfl
    replace g0 := T _ _ g0 (by decide) (Or.inr rfl)
    replace g1 := T _ _ g1 (by decide) (Or.inr rfl)
    have g2 := g
    clear g T
    replace h := qa_iload (n := 2) (q := 28) (qa_e rfl h) rfl g2
    by_cases c3 : (σ 7 a1.toNatClampNeg) = (0 : Int32)
    · replace h := qa_icf (q := 31) (qa_e rfl h) rfl (qa_F_ne c3)
      replace h := qa_aload (n := 0) (q := 32) (qa_e rfl h) rfl g0
      replace h := qa_push (z := (-3 : Int32)) (q := 34) (qa_e rfl h) rfl (by decide)
      obtain ⟨r4, er4⟩ : ∃ x, x = (ma_9_3 (-3 : Int32) σ) := ⟨_, rfl⟩
      obtain ⟨M, h, hM, es⟩ := qa_c1 (y := 9) (as := [.ref 3, .int ((-3 : Int32))]) (rest := []) (i := .invokevirtual 9) (q := 37) (qa_e rfl h) (Or.inl rfl) rfl rfl (by decide) rfl (fun r hc => mb_9_3 hM es hc)
      rw [← er4] at h es
      have er := qa_ri (qa_e rfl h)
      subst er
      have e0 : ma_128_3 N a1 σ = (r4.1, r4.2) := by exact Eq.trans (if_neg c1) (Eq.trans (if_pos c3) (Eq.trans (qa_ie er4) (rfl)))
      rw [e0]
      exact ⟨rfl, hM, es⟩
    · replace h := qa_ict (q := 38) (qa_e rfl h) rfl (qa_T_ne c3)
      replace h := qa_aload (n := 0) (q := 39) (qa_e rfl h) rfl g0
      obtain ⟨m5, em5⟩ : ∃ x, x = (ma_46_3 N σ) := ⟨_, rfl⟩
      obtain ⟨M, h, hM, es⟩ := qa_c0 (y := 46) (as := [.ref 3]) (rest := []) (i := .invokevirtual 46) (q := 42) (qa_e rfl h) (Or.inl rfl) rfl rfl (by decide) rfl (fun r hc => mb_46_3 hN hM es hc)
      rw [← em5] at es
      replace h := qa_push (z := (0 : Int32)) (q := 43) (qa_e rfl h) rfl (by decide)
      obtain ⟨lv, h, g, T⟩ := qa_istore (n := 3) (q := 44) (qa_e rfl h) rfl
      replace g0 := T _ _ g0 (by decide) (Or.inr rfl)
      replace g1 := T _ _ g1 (by decide) (Or.inr rfl)
      replace g2 := T _ _ g2 (by decide) (Or.inr rfl)
      have g3 := g
      clear g T
      replace h := qa_aload (n := 0) (q := 45) (qa_e rfl h) rfl g0
      replace h := qa_gr (b := 4) (j := 0) (q := 48) (qa_e rfl h) rfl hM rfl (by decide)
      replace h := qa_gr (b := 7) (j := 4) (q := 51) (qa_e rfl h) rfl hM rfl (by decide)
      replace h := qa_iload (n := 1) (q := 52) (qa_e rfl h) rfl g1
      replace h := qa_push (z := (0 : Int32)) (q := 53) (qa_e rfl h) rfl (by decide)
      obtain ⟨m6, em6⟩ : ∃ x, x = qa_u m5 7 a1.toNatClampNeg (0 : Int32) := ⟨_, rfl⟩
      obtain ⟨M, h, hM, es⟩ := qa_iastore (jn := a1.toNatClampNeg) (q := 54) (qa_e rfl h) rfl hM es rfl
      rw [← em6] at es
      replace h := qa_push (z := (0 : Int32)) (q := 55) (qa_e rfl h) rfl (by decide)
      obtain ⟨lv, h, g, T⟩ := qa_istore (n := 4) (q := 57) (qa_e rfl h) rfl
      replace g0 := T _ _ g0 (by decide) (Or.inr rfl)
      replace g1 := T _ _ g1 (by decide) (Or.inr rfl)
      replace g2 := T _ _ g2 (by decide) (Or.inr rfl)
      replace g3 := T _ _ g3 (by decide) (Or.inr rfl)
      have g4 := g
      clear g T
      obtain ⟨r7, er7⟩ : ∃ x, x = (qa_wh (fun s => s) (mc_128_3_p57 N a1 (σ 7 a1.toNatClampNeg)) N ((0 : Int32), (0 : Int32), m6)) := ⟨_, rfl⟩
      have L := md_128_3_p57 (l1 := a1) (l2 := (σ 7 a1.toNatClampNeg)) (F := f) (N := N) (r := r) hN f N hN (Nat.le_refl f) ((0 : Int32), (0 : Int32), m6) _ _ hM es g0 g1 g2 g3 g4 h
      rw [← er7] at L
      obtain ⟨lv, M, h, hM, es, g0, g1, g2, g3⟩ := L
      replace h := qa_aload (n := 0) (q := 130) (qa_e rfl h) rfl g0
      replace h := qa_gr (b := 4) (j := 0) (q := 133) (qa_e rfl h) rfl hM rfl (by decide)
      replace h := qa_gr (b := 7) (j := 4) (q := 136) (qa_e rfl h) rfl hM rfl (by decide)
      replace h := qa_iload (n := 1) (q := 137) (qa_e rfl h) rfl g1
      replace h := qa_iload (n := 2) (q := 138) (qa_e rfl h) rfl g2
      obtain ⟨m8, em8⟩ : ∃ x, x = qa_u r7.2.2 7 a1.toNatClampNeg (σ 7 a1.toNatClampNeg) := ⟨_, rfl⟩
      obtain ⟨M, h, hM, es⟩ := qa_iastore (jn := a1.toNatClampNeg) (q := 139) (qa_e rfl h) rfl hM es rfl
      rw [← em8] at es
      replace h := qa_iload (n := 3) (q := 140) (qa_e rfl h) rfl g3
      have er := qa_ri (qa_e rfl h)
      subst er
      have e0 : ma_128_3 N a1 σ = (r7.2.1, m8) := by exact Eq.trans (if_neg c1) (Eq.trans (if_neg c3) (Eq.trans (qa_ie em5) (Eq.trans (qa_ie em6) (Eq.trans (qa_ie er7) (Eq.trans (qa_ie em8) (rfl))))))
      rw [e0]
      exact ⟨rfl, hM, es⟩
noncomputable def mc_129_3_p35 (N : Nat) (l1 : Int32) (l3 : Int32) (σ : qa_S) (s : Int32 × Int32) : (Int32 × Int32) ⊕ (Int32 × Int32) :=
  if s.1 < (4 : Int32) then
    .inl ((s.1 + (1 : Int32)), (if (ma_48 (σ 24 l1.toNatClampNeg) s.1) = (0 : Int32) then s.2 else (if (ma_50 (σ (17 + l3.toNatClampNeg) s.1.toNatClampNeg) (σ 25 l1.toNatClampNeg)) = (σ (17 + l3.toNatClampNeg) s.1.toNatClampNeg) then (s.2 + (1 : Int32)) else s.2)))
  else
    .inr (s.1, s.2)
theorem md_129_3_p35 {N F : Nat} {r : Option Value × q4_M} {l1 : Int32} {l3 : Int32} {σ : qa_S} (hN : F ≤ N) : ∀ f n, f ≤ n → f ≤ F → ∀ (s : Int32 × Int32) (lv : List (Nat × Value)) (M : q4_M), qa_O M → qa_s M = σ → q4_get lv 0 = some (.ref 3) → q4_get lv 1 = some (.int (l1)) → q4_get lv 2 = some (.int (s.2)) → q4_get lv 3 = some (.int (l3)) → q4_get lv 4 = some (.int (s.1)) → q4_run f 129 35 lv [] M 0 0 = some r → ∃ lv M, q4_run F 129 100 lv [] M 0 0 = some r ∧ qa_O M ∧ qa_s M = σ ∧ q4_get lv 0 = some (.ref 3) ∧ q4_get lv 1 = some (.int (l1)) ∧ q4_get lv 2 = some (.int ((qa_wh (fun s => s) (mc_129_3_p35 N l1 l3 σ) n s).2)) ∧ q4_get lv 3 = some (.int (l3)) := by
  intro f
  induction f with
  | zero => intro n _ _ s lv M hM es _ _ _ _ _ h; cases h
  | succ f ih =>
    intro n hn hF s lv M hM es g0 g1 g2 g3 g4 h
    obtain ⟨n, rfl⟩ : ∃ n1, n = n1 + 1 := ⟨n - 1, by omega⟩
    replace hn : f ≤ n := Nat.le_of_succ_le_succ hn
    have hN := Nat.le_trans (Nat.le_of_succ_le hF) hN
    replace h := qa_iload (n := 4) (q := 37) (qa_d rfl h) rfl g4
    replace h := qa_push (z := (4 : Int32)) (q := 38) (qa_e rfl h) rfl (by decide)
    by_cases c1 : s.1 < (4 : Int32)
    · replace h := qa_iff (q := 41) (qa_e rfl h) rfl (qa_F_ge c1)
      replace h := qa_aload (n := 0) (q := 42) (qa_e rfl h) rfl g0
      replace h := qa_gr (b := 4) (j := 0) (q := 45) (qa_e rfl h) rfl hM rfl (by decide)
      replace h := qa_gr (b := 16) (j := 6) (q := 48) (qa_e rfl h) rfl hM rfl (by decide)
      replace h := qa_iload (n := 3) (q := 49) (qa_e rfl h) rfl g3
      replace h := qa_aaload (b := 17) (jn := l3.toNatClampNeg) (q := 50) (qa_e rfl h) rfl hM rfl (by decide) (by decide +kernel)
      replace h := qa_iload (n := 4) (q := 52) (qa_e rfl h) rfl g4
      replace h := qa_iaload (jn := s.1.toNatClampNeg) (q := 53) (qa_e rfl h) rfl hM es rfl
      obtain ⟨lv, h, g, T⟩ := qa_istore (n := 5) (q := 55) (qa_e rfl h) rfl
      replace g0 := T _ _ g0 (by decide) (Or.inr rfl)
      replace g1 := T _ _ g1 (by decide) (Or.inr rfl)
      replace g2 := T _ _ g2 (by decide) (Or.inr rfl)
      replace g3 := T _ _ g3 (by decide) (Or.inr rfl)
      replace g4 := T _ _ g4 (by decide) (Or.inr rfl)
      have g5 := g
      clear g T
      replace h := qa_aload (n := 0) (q := 56) (qa_e rfl h) rfl g0
      replace h := qa_gr (b := 4) (j := 0) (q := 59) (qa_e rfl h) rfl hM rfl (by decide)
      replace h := qa_gr (b := 24) (j := 7) (q := 62) (qa_e rfl h) rfl hM rfl (by decide)
      replace h := qa_iload (n := 1) (q := 63) (qa_e rfl h) rfl g1
      replace h := qa_iaload (jn := l1.toNatClampNeg) (q := 64) (qa_e rfl h) rfl hM es rfl
      replace h := qa_iload (n := 4) (q := 66) (qa_e rfl h) rfl g4
      obtain ⟨M, h, hM, es⟩ := qa_c1 (y := 48) (as := [.int ((σ 24 l1.toNatClampNeg)), .int (s.1)]) (rest := []) (i := .invokestatic 48) (q := 69) (qa_e rfl h) (Or.inr rfl) rfl rfl (by decide) rfl (fun r hc => mb_48 hM es hc)
      obtain ⟨lv, M, h, hM, es, g0, g1, g2, g3, g4⟩ : ∃ lv M, q4_run f 129 94 lv [] M 0 0 = some r ∧ qa_O M ∧ qa_s M = σ ∧ q4_get lv 0 = some (.ref 3) ∧ q4_get lv 1 = some (.int (l1)) ∧ q4_get lv 2 = some (.int ((if (ma_48 (σ 24 l1.toNatClampNeg) s.1) = (0 : Int32) then s.2 else (if (ma_50 (σ (17 + l3.toNatClampNeg) s.1.toNatClampNeg) (σ 25 l1.toNatClampNeg)) = (σ (17 + l3.toNatClampNeg) s.1.toNatClampNeg) then (s.2 + (1 : Int32)) else s.2)))) ∧ q4_get lv 3 = some (.int (l3)) ∧ q4_get lv 4 = some (.int (s.1)) := by
        by_cases c2 : (ma_48 (σ 24 l1.toNatClampNeg) s.1) = (0 : Int32)
        · replace h := qa_ict (q := 94) (qa_e rfl h) rfl (qa_T_eq c2)
          exact ⟨lv, M, h, hM, es, g0, g1, (qa_gi1 c2 g2), g3, g4⟩
        · replace h := qa_icf (q := 72) (qa_e rfl h) rfl (qa_F_eq c2)
          replace h := qa_iload (n := 5) (q := 74) (qa_e rfl h) rfl g5
          replace h := qa_aload (n := 0) (q := 75) (qa_e rfl h) rfl g0
          replace h := qa_gr (b := 4) (j := 0) (q := 78) (qa_e rfl h) rfl hM rfl (by decide)
          replace h := qa_gr (b := 25) (j := 8) (q := 81) (qa_e rfl h) rfl hM rfl (by decide)
          replace h := qa_iload (n := 1) (q := 82) (qa_e rfl h) rfl g1
          replace h := qa_iaload (jn := l1.toNatClampNeg) (q := 83) (qa_e rfl h) rfl hM es rfl
          obtain ⟨M, h, hM, es⟩ := qa_c1 (y := 50) (as := [.int ((σ (17 + l3.toNatClampNeg) s.1.toNatClampNeg)), .int ((σ 25 l1.toNatClampNeg))]) (rest := []) (i := .invokestatic 50) (q := 86) (qa_e rfl h) (Or.inr rfl) rfl rfl (by decide) rfl (fun r hc => mb_50 hM es hc)
          replace h := qa_iload (n := 5) (q := 88) (qa_e rfl h) rfl g5
          obtain ⟨lv, M, h, hM, es, g0, g1, g2, g3, g4⟩ : ∃ lv M, q4_run f 129 94 lv [] M 0 0 = some r ∧ qa_O M ∧ qa_s M = σ ∧ q4_get lv 0 = some (.ref 3) ∧ q4_get lv 1 = some (.int (l1)) ∧ q4_get lv 2 = some (.int ((if (ma_50 (σ (17 + l3.toNatClampNeg) s.1.toNatClampNeg) (σ 25 l1.toNatClampNeg)) = (σ (17 + l3.toNatClampNeg) s.1.toNatClampNeg) then (s.2 + (1 : Int32)) else s.2))) ∧ q4_get lv 3 = some (.int (l3)) ∧ q4_get lv 4 = some (.int (s.1)) := by
            by_cases c3 : (ma_50 (σ (17 + l3.toNatClampNeg) s.1.toNatClampNeg) (σ 25 l1.toNatClampNeg)) = (σ (17 + l3.toNatClampNeg) s.1.toNatClampNeg)
            · replace h := qa_iff (q := 91) (qa_e rfl h) rfl (qa_F_ne c3)
              obtain ⟨lv, h, g, T⟩ := qa_iinc (n := 2) (z := (1 : Int32)) (q := 94) (qa_e rfl h) rfl (by decide) g2
              replace g0 := T _ _ g0 (by decide) (Or.inr rfl)
              replace g1 := T _ _ g1 (by decide) (Or.inr rfl)
              replace g3 := T _ _ g3 (by decide) (Or.inr rfl)
              replace g4 := T _ _ g4 (by decide) (Or.inr rfl)
              replace g2 := g
              clear g T
              exact ⟨lv, M, h, hM, es, g0, g1, (qa_gi1 c3 g2), g3, g4⟩
            · replace h := qa_ift (q := 94) (qa_e rfl h) rfl (qa_T_ne c3)
              exact ⟨lv, M, h, hM, es, g0, g1, (qa_gi0 c3 g2), g3, g4⟩
          exact ⟨lv, M, h, hM, es, g0, g1, (qa_gi0 c2 g2), g3, g4⟩
      obtain ⟨lv, h, g, T⟩ := qa_iinc (n := 4) (z := (1 : Int32)) (q := 97) (qa_e rfl h) rfl (by decide) g4
      replace g0 := T _ _ g0 (by decide) (Or.inr rfl)
      replace g1 := T _ _ g1 (by decide) (Or.inr rfl)
      replace g2 := T _ _ g2 (by decide) (Or.inr rfl)
      replace g3 := T _ _ g3 (by decide) (Or.inr rfl)
      replace g4 := g
      clear g T
      replace h := qa_goto (q := 35) (qa_e rfl h) rfl
      have e0 : mc_129_3_p35 N l1 l3 σ s = .inl ((s.1 + (1 : Int32)), (if (ma_48 (σ 24 l1.toNatClampNeg) s.1) = (0 : Int32) then s.2 else (if (ma_50 (σ (17 + l3.toNatClampNeg) s.1.toNatClampNeg) (σ 25 l1.toNatClampNeg)) = (σ (17 + l3.toNatClampNeg) s.1.toNatClampNeg) then (s.2 + (1 : Int32)) else s.2))) := by exact Eq.trans (if_pos c1) (rfl)
      rw [qa_whl e0]
      exact ih n hn (Nat.le_of_succ_le hF) ((s.1 + (1 : Int32)), (if (ma_48 (σ 24 l1.toNatClampNeg) s.1) = (0 : Int32) then s.2 else (if (ma_50 (σ (17 + l3.toNatClampNeg) s.1.toNatClampNeg) (σ 25 l1.toNatClampNeg)) = (σ (17 + l3.toNatClampNeg) s.1.toNatClampNeg) then (s.2 + (1 : Int32)) else s.2))) _ _ hM es g0 g1 g2 g3 g4 h
    · replace h := qa_ift (q := 100) (qa_e rfl h) rfl (qa_T_ge c1)
      have e0 : mc_129_3_p35 N l1 l3 σ s = .inr (s.1, s.2) := by exact Eq.trans (if_neg c1) (rfl)
      rw [qa_whr e0]
      exact ⟨_, _, q61_mono f F _ _ _ _ _ _ _ _ (Nat.le_of_succ_le hF) h, hM, es, g0, g1, g2, g3⟩
noncomputable def mc_129_3_p21 (N : Nat) (l1 : Int32) (σ : qa_S) (s : Int32 × Int32) : (Int32 × Int32) ⊕ (Int32 × Int32) :=
  if s.1 < (σ 4 0) then
    qa_in ((qa_wh (fun s => s) (mc_129_3_p35 N l1 s.1 σ) N ((0 : Int32), s.2))) fun r2 =>
    .inl ((s.1 + (1 : Int32)), r2.2)
  else
    .inr (s.1, s.2)
theorem md_129_3_p21 {N F : Nat} {r : Option Value × q4_M} {l1 : Int32} {σ : qa_S} (hN : F ≤ N) : ∀ f n, f ≤ n → f ≤ F → ∀ (s : Int32 × Int32) (lv : List (Nat × Value)) (M : q4_M), qa_O M → qa_s M = σ → q4_get lv 0 = some (.ref 3) → q4_get lv 1 = some (.int (l1)) → q4_get lv 2 = some (.int (s.2)) → q4_get lv 3 = some (.int (s.1)) → q4_run f 129 21 lv [] M 0 0 = some r → ∃ lv M, q4_run F 129 106 lv [] M 0 0 = some r ∧ qa_O M ∧ qa_s M = σ ∧ q4_get lv 2 = some (.int ((qa_wh (fun s => s) (mc_129_3_p21 N l1 σ) n s).2)) := by
  intro f
  induction f with
  | zero => intro n _ _ s lv M hM es _ _ _ _ h; cases h
  | succ f ih =>
    intro n hn hF s lv M hM es g0 g1 g2 g3 h
    obtain ⟨n, rfl⟩ : ∃ n1, n = n1 + 1 := ⟨n - 1, by omega⟩
    replace hn : f ≤ n := Nat.le_of_succ_le_succ hn
    have hN := Nat.le_trans (Nat.le_of_succ_le hF) hN
    replace h := qa_iload (n := 3) (q := 22) (qa_d rfl h) rfl g3
    replace h := qa_aload (n := 0) (q := 23) (qa_e rfl h) rfl g0
    replace h := qa_gr (b := 4) (j := 0) (q := 26) (qa_e rfl h) rfl hM rfl (by decide)
    replace h := qa_gi (j := 0) (q := 29) (qa_e rfl h) rfl hM es rfl (by decide)
    by_cases c1 : s.1 < (σ 4 0)
    · replace h := qa_iff (q := 32) (qa_e rfl h) rfl (qa_F_ge c1)
      replace h := qa_push (z := (0 : Int32)) (q := 33) (qa_e rfl h) rfl (by decide)
      obtain ⟨lv, h, g, T⟩ := qa_istore (n := 4) (q := 35) (qa_e rfl h) rfl
      replace g0 := T _ _ g0 (by decide) (Or.inr rfl)
      replace g1 := T _ _ g1 (by decide) (Or.inr rfl)
      replace g2 := T _ _ g2 (by decide) (Or.inr rfl)
      replace g3 := T _ _ g3 (by decide) (Or.inr rfl)
      have g4 := g
      clear g T
      obtain ⟨r2, er2⟩ : ∃ x, x = (qa_wh (fun s => s) (mc_129_3_p35 N l1 s.1 σ) N ((0 : Int32), s.2)) := ⟨_, rfl⟩
      have L := md_129_3_p35 (l1 := l1) (l3 := s.1) (σ := σ) (F := f) (N := N) (r := r) hN f N hN (Nat.le_refl f) ((0 : Int32), s.2) _ _ hM es g0 g1 g2 g3 g4 h
      rw [← er2] at L
      obtain ⟨lv, M, h, hM, es, g0, g1, g2, g3⟩ := L
      obtain ⟨lv, h, g, T⟩ := qa_iinc (n := 3) (z := (1 : Int32)) (q := 103) (qa_e rfl h) rfl (by decide) g3
      replace g0 := T _ _ g0 (by decide) (Or.inr rfl)
      replace g1 := T _ _ g1 (by decide) (Or.inr rfl)
      replace g2 := T _ _ g2 (by decide) (Or.inr rfl)
      replace g3 := g
      clear g T
      replace h := qa_goto (q := 21) (qa_e rfl h) rfl
      have e0 : mc_129_3_p21 N l1 σ s = .inl ((s.1 + (1 : Int32)), r2.2) := by exact Eq.trans (if_pos c1) (Eq.trans (qa_ie er2) (rfl))
      rw [qa_whl e0]
      exact ih n hn (Nat.le_of_succ_le hF) ((s.1 + (1 : Int32)), r2.2) _ _ hM es g0 g1 g2 g3 h
    · replace h := qa_ift (q := 106) (qa_e rfl h) rfl (qa_T_ge c1)
      have e0 : mc_129_3_p21 N l1 σ s = .inr (s.1, s.2) := by exact Eq.trans (if_neg c1) (rfl)
      rw [qa_whr e0]
      exact ⟨_, _, q61_mono f F _ _ _ _ _ _ _ _ (Nat.le_of_succ_le hF) h, hM, es, g2⟩
/-- BuriedBySevens, exact, (I)I -/
noncomputable def ma_129_3 (N : Nat) (a1 : Int32) (σ : qa_S) : Int32 × qa_S :=
  if (ma_33_4 a1 σ) = (0 : Int32) then
    qa_in ((ma_9_3 (-1 : Int32) σ)) fun r2 =>
    (r2.1, r2.2)
  else
    qa_in ((qa_wh (fun s => s) (mc_129_3_p21 N a1 σ) N ((0 : Int32), (0 : Int32)))) fun r3 =>
    (r3.2, σ)
theorem mb_129_3 {f N : Nat} (hN : f ≤ N) {M : q4_M} {r : Option Value × q4_M} {σ : qa_S} {a1 : Int32} (hM : qa_O M) (es : qa_s M = σ) (h : q4_run f 129 0 (lv_args 0 [.ref 3, .int (a1)]) [] M 0 0 = some r) : r.1 = some (.int ((ma_129_3 N a1 σ).1)) ∧ qa_O r.2 ∧ qa_s r.2 = (ma_129_3 N a1 σ).2 := by
  obtain ⟨lv, el⟩ : ∃ l, l = lv_args 0 [.ref 3, .int (a1)] := ⟨_, rfl⟩
  have g0 : q4_get lv 0 = some (.ref 3) := by rw [el]; rfl
  have g1 : q4_get lv 1 = some (.int (a1)) := by rw [el]; rfl
  rw [← el] at h
  clear el
  replace h := qa_aload (n := 0) (q := 1) (qa_e rfl h) rfl g0
  replace h := qa_gr (b := 4) (j := 0) (q := 4) (qa_e rfl h) rfl hM rfl (by decide)
  replace h := qa_iload (n := 1) (q := 5) (qa_e rfl h) rfl g1
  obtain ⟨M, h, hM, es⟩ := qa_c1 (y := 33) (as := [.ref 4, .int (a1)]) (rest := []) (i := .invokevirtual 33) (q := 8) (qa_e rfl h) (Or.inl rfl) rfl rfl (by decide) rfl (fun r hc => mb_33_4 hM es hc)
  by_cases c1 : (ma_33_4 a1 σ) = (0 : Int32)
  · replace h := qa_icf (q := 11) (qa_e rfl h) rfl (qa_F_ne c1)
    replace h := qa_aload (n := 0) (q := 12) (qa_e rfl h) rfl g0
    replace h := qa_push (z := (-1 : Int32)) (q := 13) (qa_e rfl h) rfl (by decide)
    obtain ⟨r2, er2⟩ : ∃ x, x = (ma_9_3 (-1 : Int32) σ) := ⟨_, rfl⟩
    obtain ⟨M, h, hM, es⟩ := qa_c1 (y := 9) (as := [.ref 3, .int ((-1 : Int32))]) (rest := []) (i := .invokevirtual 9) (q := 16) (qa_e rfl h) (Or.inl rfl) rfl rfl (by decide) rfl (fun r hc => mb_9_3 hM es hc)
    rw [← er2] at h es
    have er := qa_ri (qa_e rfl h)
    subst er
    have e0 : ma_129_3 N a1 σ = (r2.1, r2.2) := by exact Eq.trans (if_pos c1) (Eq.trans (qa_ie er2) (rfl))
    rw [e0]
    exact ⟨rfl, hM, es⟩
  · replace h := qa_ict (q := 17) (qa_e rfl h) rfl (qa_T_ne c1)
    replace h := qa_push (z := (0 : Int32)) (q := 18) (qa_e rfl h) rfl (by decide)
    obtain ⟨lv, h, g, T⟩ := qa_istore (n := 2) (q := 19) (qa_e rfl h) rfl
    replace g0 := T _ _ g0 (by decide) (Or.inr rfl)
    replace g1 := T _ _ g1 (by decide) (Or.inr rfl)
    have g2 := g
    clear g T
    replace h := qa_push (z := (0 : Int32)) (q := 20) (qa_e rfl h) rfl (by decide)
    obtain ⟨lv, h, g, T⟩ := qa_istore (n := 3) (q := 21) (qa_e rfl h) rfl
    replace g0 := T _ _ g0 (by decide) (Or.inr rfl)
    replace g1 := T _ _ g1 (by decide) (Or.inr rfl)
    replace g2 := T _ _ g2 (by decide) (Or.inr rfl)
    have g3 := g
    clear g T
    obtain ⟨r3, er3⟩ : ∃ x, x = (qa_wh (fun s => s) (mc_129_3_p21 N a1 σ) N ((0 : Int32), (0 : Int32))) := ⟨_, rfl⟩
    have L := md_129_3_p21 (l1 := a1) (σ := σ) (F := f) (N := N) (r := r) hN f N hN (Nat.le_refl f) ((0 : Int32), (0 : Int32)) _ _ hM es g0 g1 g2 g3 h
    rw [← er3] at L
    obtain ⟨lv, M, h, hM, es, g2⟩ := L
    replace h := qa_iload (n := 2) (q := 107) (qa_e rfl h) rfl g2
    have er := qa_ri (qa_e rfl h)
    subst er
    have e0 : ma_129_3 N a1 σ = (r3.2, σ) := by exact Eq.trans (if_neg c1) (Eq.trans (qa_ie er3) (rfl))
    rw [e0]
    exact ⟨rfl, hM, es⟩
noncomputable def mc_130_3_p41 (N : Nat) (l2 : Int32) (l3 : Int32) (l4 : Int32) (σ : qa_S) (s : Int32) : (Int32) ⊕ ((Int32) ⊕ (Int32)) :=
  if s < (0 : Int32) then
    .inr (.inr s)
  else
    qa_in ((ma_55 N l4 s (17 + l2.toNatClampNeg) (17 + l3.toNatClampNeg) σ)) fun r2 =>
    if r2 = (0 : Int32) then
      .inl (s + (-1 : Int32))
    else
      .inr (.inl s)
theorem md_130_3_p41 {N F : Nat} {r : Option Value × q4_M} {l2 : Int32} {l3 : Int32} {l4 : Int32} {σ : qa_S} (hN : F ≤ N) : ∀ f n, f ≤ n → f ≤ F → ∀ (s : Int32) (lv : List (Nat × Value)) (M : q4_M), qa_O M → qa_s M = σ → q4_get lv 0 = some (.ref 3) → q4_get lv 2 = some (.int (l2)) → q4_get lv 3 = some (.int (l3)) → q4_get lv 4 = some (.int (l4)) → q4_get lv 5 = some (.int (s)) → q4_run f 130 41 lv [] M 0 0 = some r → (∀ b, (qa_wh (fun s => .inr s) (mc_130_3_p41 N l2 l3 l4 σ) n s) = .inl b → r.1 = some (.int (b)) ∧ qa_O r.2 ∧ qa_s r.2 = σ) ∧ (∀ b, (qa_wh (fun s => .inr s) (mc_130_3_p41 N l2 l3 l4 σ) n s) = .inr b → ∃ lv M, q4_run F 130 83 lv [] M 0 0 = some r ∧ qa_O M ∧ qa_s M = σ) := by
  intro f
  induction f with
  | zero => intro n _ _ s lv M hM es _ _ _ _ _ h; cases h
  | succ f ih =>
    intro n hn hF s lv M hM es g0 g2 g3 g4 g5 h
    obtain ⟨n, rfl⟩ : ∃ n1, n = n1 + 1 := ⟨n - 1, by omega⟩
    replace hn : f ≤ n := Nat.le_of_succ_le_succ hn
    have hN := Nat.le_trans (Nat.le_of_succ_le hF) hN
    replace h := qa_iload (n := 5) (q := 43) (qa_d rfl h) rfl g5
    by_cases c1 : s < (0 : Int32)
    · replace h := qa_ict (q := 83) (qa_e rfl h) rfl (qa_T_lt c1)
      have e0 : mc_130_3_p41 N l2 l3 l4 σ s = .inr (.inr s) := by exact Eq.trans (if_pos c1) (rfl)
      rw [qa_whr e0]
      exact ⟨fun b hb => (nomatch hb), fun b hb => (by have e := Sum.inr.inj hb; subst e; exact ⟨_, _, q61_mono f F _ _ _ _ _ _ _ _ (Nat.le_of_succ_le hF) h, hM, es⟩)⟩
    · replace h := qa_icf (q := 46) (qa_e rfl h) rfl (qa_F_lt c1)
      replace h := qa_iload (n := 4) (q := 48) (qa_e rfl h) rfl g4
      replace h := qa_iload (n := 5) (q := 50) (qa_e rfl h) rfl g5
      replace h := qa_aload (n := 0) (q := 51) (qa_e rfl h) rfl g0
      replace h := qa_gr (b := 4) (j := 0) (q := 54) (qa_e rfl h) rfl hM rfl (by decide)
      replace h := qa_gr (b := 16) (j := 6) (q := 57) (qa_e rfl h) rfl hM rfl (by decide)
      replace h := qa_iload (n := 2) (q := 58) (qa_e rfl h) rfl g2
      replace h := qa_aaload (b := 17) (jn := l2.toNatClampNeg) (q := 59) (qa_e rfl h) rfl hM rfl (by decide) (by decide +kernel)
      replace h := qa_aload (n := 0) (q := 60) (qa_e rfl h) rfl g0
      replace h := qa_gr (b := 4) (j := 0) (q := 63) (qa_e rfl h) rfl hM rfl (by decide)
      replace h := qa_gr (b := 16) (j := 6) (q := 66) (qa_e rfl h) rfl hM rfl (by decide)
      replace h := qa_iload (n := 3) (q := 67) (qa_e rfl h) rfl g3
      replace h := qa_aaload (b := 17) (jn := l3.toNatClampNeg) (q := 68) (qa_e rfl h) rfl hM rfl (by decide) (by decide +kernel)
      obtain ⟨r2, er2⟩ : ∃ x, x = (ma_55 N l4 s (17 + l2.toNatClampNeg) (17 + l3.toNatClampNeg) σ) := ⟨_, rfl⟩
      obtain ⟨M, h, hM, es⟩ := qa_c1 (y := 55) (as := [.int (l4), .int (s), .ref ((17 + l2.toNatClampNeg)), .ref ((17 + l3.toNatClampNeg))]) (rest := []) (i := .invokestatic 55) (q := 71) (qa_e rfl h) (Or.inr rfl) rfl rfl (by decide) rfl (fun r hc => mb_55 hN hM es hc)
      rw [← er2] at h
      by_cases c3 : r2 = (0 : Int32)
      · replace h := qa_ict (q := 77) (qa_e rfl h) rfl (qa_T_eq c3)
        obtain ⟨lv, h, g, T⟩ := qa_iinc (n := 5) (z := (-1 : Int32)) (q := 80) (qa_e rfl h) rfl (by decide) g5
        replace g0 := T _ _ g0 (by decide) (Or.inr rfl)
        replace g2 := T _ _ g2 (by decide) (Or.inr rfl)
        replace g3 := T _ _ g3 (by decide) (Or.inr rfl)
        replace g4 := T _ _ g4 (by decide) (Or.inr rfl)
        replace g5 := g
        clear g T
        replace h := qa_goto (q := 41) (qa_e rfl h) rfl
        have e0 : mc_130_3_p41 N l2 l3 l4 σ s = .inl (s + (-1 : Int32)) := by exact Eq.trans (if_neg c1) (Eq.trans (qa_ie er2) (Eq.trans (if_pos c3) (rfl)))
        rw [qa_whl e0]
        exact ih n hn (Nat.le_of_succ_le hF) (s + (-1 : Int32)) _ _ hM es g0 g2 g3 g4 g5 h
      · replace h := qa_icf (q := 74) (qa_e rfl h) rfl (qa_F_eq c3)
        replace h := qa_iload (n := 5) (q := 76) (qa_e rfl h) rfl g5
        have er := qa_ri (qa_e rfl h)
        subst er
        have e0 : mc_130_3_p41 N l2 l3 l4 σ s = .inr (.inl s) := by exact Eq.trans (if_neg c1) (Eq.trans (qa_ie er2) (Eq.trans (if_neg c3) (rfl)))
        rw [qa_whr e0]
        exact ⟨fun b hb => (by have e := Sum.inl.inj hb; subst e; exact ⟨rfl, hM, es⟩), fun b hb => nomatch hb⟩
/-- BuriedBySevens, bluntest, (III)I -/
noncomputable def ma_130_3 (N : Nat) (a1 : Int32) (a2 : Int32) (a3 : Int32) (σ : qa_S) : Int32 × qa_S :=
  if (ma_33_4 a1 σ) = (0 : Int32) then
    qa_in ((ma_9_3 (-1 : Int32) σ)) fun r2 =>
    (r2.1, r2.2)
  else
    if (ma_52_3 a2 a3 σ) = (0 : Int32) then
      qa_in ((ma_9_3 (-1 : Int32) σ)) fun r4 =>
      (r4.1, r4.2)
    else
      qa_in ((qa_wh (fun s => .inr s) (mc_130_3_p41 N a2 a3 (σ 24 a1.toNatClampNeg) σ) N (9 : Int32))) fun r5 =>
      qa_cs r5
        (fun b6 =>
          (b6, σ))
        (fun b6 =>
          ((-9 : Int32), σ))
theorem mb_130_3 {f N : Nat} (hN : f ≤ N) {M : q4_M} {r : Option Value × q4_M} {σ : qa_S} {a1 : Int32} {a2 : Int32} {a3 : Int32} (hM : qa_O M) (es : qa_s M = σ) (h : q4_run f 130 0 (lv_args 0 [.ref 3, .int (a1), .int (a2), .int (a3)]) [] M 0 0 = some r) : r.1 = some (.int ((ma_130_3 N a1 a2 a3 σ).1)) ∧ qa_O r.2 ∧ qa_s r.2 = (ma_130_3 N a1 a2 a3 σ).2 := by
  obtain ⟨lv, el⟩ : ∃ l, l = lv_args 0 [.ref 3, .int (a1), .int (a2), .int (a3)] := ⟨_, rfl⟩
  have g0 : q4_get lv 0 = some (.ref 3) := by rw [el]; rfl
  have g1 : q4_get lv 1 = some (.int (a1)) := by rw [el]; rfl
  have g2 : q4_get lv 2 = some (.int (a2)) := by rw [el]; rfl
  have g3 : q4_get lv 3 = some (.int (a3)) := by rw [el]; rfl
  rw [← el] at h
  clear el
  replace h := qa_aload (n := 0) (q := 1) (qa_e rfl h) rfl g0
  replace h := qa_gr (b := 4) (j := 0) (q := 4) (qa_e rfl h) rfl hM rfl (by decide)
  replace h := qa_iload (n := 1) (q := 5) (qa_e rfl h) rfl g1
  obtain ⟨M, h, hM, es⟩ := qa_c1 (y := 33) (as := [.ref 4, .int (a1)]) (rest := []) (i := .invokevirtual 33) (q := 8) (qa_e rfl h) (Or.inl rfl) rfl rfl (by decide) rfl (fun r hc => mb_33_4 hM es hc)
  by_cases c1 : (ma_33_4 a1 σ) = (0 : Int32)
  · replace h := qa_ict (q := 20) (qa_e rfl h) rfl (qa_T_eq c1)
    replace h := qa_aload (n := 0) (q := 21) (qa_e rfl h) rfl g0
    replace h := qa_push (z := (-1 : Int32)) (q := 22) (qa_e rfl h) rfl (by decide)
    obtain ⟨r2, er2⟩ : ∃ x, x = (ma_9_3 (-1 : Int32) σ) := ⟨_, rfl⟩
    obtain ⟨M, h, hM, es⟩ := qa_c1 (y := 9) (as := [.ref 3, .int ((-1 : Int32))]) (rest := []) (i := .invokevirtual 9) (q := 25) (qa_e rfl h) (Or.inl rfl) rfl rfl (by decide) rfl (fun r hc => mb_9_3 hM es hc)
    rw [← er2] at h es
    have er := qa_ri (qa_e rfl h)
    subst er
    have e0 : ma_130_3 N a1 a2 a3 σ = (r2.1, r2.2) := by exact Eq.trans (if_pos c1) (Eq.trans (qa_ie er2) (rfl))
    rw [e0]
    exact ⟨rfl, hM, es⟩
  · replace h := qa_icf (q := 11) (qa_e rfl h) rfl (qa_F_eq c1)
    replace h := qa_aload (n := 0) (q := 12) (qa_e rfl h) rfl g0
    replace h := qa_iload (n := 2) (q := 13) (qa_e rfl h) rfl g2
    replace h := qa_iload (n := 3) (q := 14) (qa_e rfl h) rfl g3
    obtain ⟨M, h, hM, es⟩ := qa_c1 (y := 52) (as := [.ref 3, .int (a2), .int (a3)]) (rest := []) (i := .invokevirtual 52) (q := 17) (qa_e rfl h) (Or.inl rfl) rfl rfl (by decide) rfl (fun r hc => mb_52_3 hM es hc)
    by_cases c3 : (ma_52_3 a2 a3 σ) = (0 : Int32)
    · replace h := qa_icf (q := 20) (qa_e rfl h) rfl (qa_F_ne c3)
      replace h := qa_aload (n := 0) (q := 21) (qa_e rfl h) rfl g0
      replace h := qa_push (z := (-1 : Int32)) (q := 22) (qa_e rfl h) rfl (by decide)
      obtain ⟨r4, er4⟩ : ∃ x, x = (ma_9_3 (-1 : Int32) σ) := ⟨_, rfl⟩
      obtain ⟨M, h, hM, es⟩ := qa_c1 (y := 9) (as := [.ref 3, .int ((-1 : Int32))]) (rest := []) (i := .invokevirtual 9) (q := 25) (qa_e rfl h) (Or.inl rfl) rfl rfl (by decide) rfl (fun r hc => mb_9_3 hM es hc)
      rw [← er4] at h es
      have er := qa_ri (qa_e rfl h)
      subst er
      have e0 : ma_130_3 N a1 a2 a3 σ = (r4.1, r4.2) := by exact Eq.trans (if_neg c1) (Eq.trans (if_pos c3) (Eq.trans (qa_ie er4) (rfl)))
      rw [e0]
      exact ⟨rfl, hM, es⟩
    · replace h := qa_ict (q := 26) (qa_e rfl h) rfl (qa_T_ne c3)
      replace h := qa_aload (n := 0) (q := 27) (qa_e rfl h) rfl g0
      replace h := qa_gr (b := 4) (j := 0) (q := 30) (qa_e rfl h) rfl hM rfl (by decide)
      replace h := qa_gr (b := 24) (j := 7) (q := 33) (qa_e rfl h) rfl hM rfl (by decide)
      replace h := qa_iload (n := 1) (q := 34) (qa_e rfl h) rfl g1
      replace h := qa_iaload (jn := a1.toNatClampNeg) (q := 35) (qa_e rfl h) rfl hM es rfl
      obtain ⟨lv, h, g, T⟩ := qa_istore (n := 4) (q := 37) (qa_e rfl h) rfl
      replace g0 := T _ _ g0 (by decide) (Or.inr rfl)
      replace g2 := T _ _ g2 (by decide) (Or.inr rfl)
      replace g3 := T _ _ g3 (by decide) (Or.inr rfl)
      have g4 := g
      clear g T
      replace h := qa_push (z := (9 : Int32)) (q := 39) (qa_e rfl h) rfl (by decide)
      obtain ⟨lv, h, g, T⟩ := qa_istore (n := 5) (q := 41) (qa_e rfl h) rfl
      replace g0 := T _ _ g0 (by decide) (Or.inr rfl)
      replace g2 := T _ _ g2 (by decide) (Or.inr rfl)
      replace g3 := T _ _ g3 (by decide) (Or.inr rfl)
      replace g4 := T _ _ g4 (by decide) (Or.inr rfl)
      have g5 := g
      clear g T
      obtain ⟨r5, er5⟩ : ∃ x, x = (qa_wh (fun s => .inr s) (mc_130_3_p41 N a2 a3 (σ 24 a1.toNatClampNeg) σ) N (9 : Int32)) := ⟨_, rfl⟩
      have L := md_130_3_p41 (l2 := a2) (l3 := a3) (l4 := (σ 24 a1.toNatClampNeg)) (σ := σ) (F := f) (N := N) (r := r) hN f N hN (Nat.le_refl f) (9 : Int32) _ _ hM es g0 g2 g3 g4 g5 h
      rw [← er5] at L
      rcases qr5 : r5 with b6 | b6
      · obtain ⟨h, hM, es⟩ := L.1 b6 qr5
        have e0 : ma_130_3 N a1 a2 a3 σ = (b6, σ) := by exact Eq.trans (if_neg c1) (Eq.trans (if_neg c3) (Eq.trans (qa_ie er5) (Eq.trans (qa_csl qr5 _ _) (rfl))))
        rw [e0]
        exact ⟨h, hM, es⟩
      · obtain ⟨lv, M, h, hM, es⟩ := L.2 b6 qr5
        replace h := qa_push (z := (-9 : Int32)) (q := 85) (qa_e rfl h) rfl (by decide)
        have er := qa_ri (qa_e rfl h)
        subst er
        have e0 : ma_130_3 N a1 a2 a3 σ = ((-9 : Int32), σ) := by exact Eq.trans (if_neg c1) (Eq.trans (if_neg c3) (Eq.trans (qa_ie er5) (Eq.trans (qa_csr qr5 _ _) (rfl))))
        rw [e0]
        exact ⟨rfl, hM, es⟩
noncomputable def mc_132_73_p5 (N : Nat) (l1 : Int32) (l2 : Nat) (σ : qa_S) (s : Int32 × Int32) : (Int32 × Int32) ⊕ (Int32 × Int32) :=
  if s.1 < (4 : Int32) then
    .inl ((s.1 + (1 : Int32)), (s.2 + (ma_113 ((σ (75 + s.1.toNatClampNeg) l1.toNatClampNeg) - (σ l2 s.1.toNatClampNeg)))))
  else
    .inr (s.1, s.2)
theorem md_132_73_p5 {N F : Nat} {r : Option Value × q4_M} {l1 : Int32} {l2 : Nat} {σ : qa_S} (hN : F ≤ N) : ∀ f n, f ≤ n → f ≤ F → ∀ (s : Int32 × Int32) (lv : List (Nat × Value)) (M : q4_M), qa_O M → qa_s M = σ → q4_get lv 0 = some (.ref 73) → q4_get lv 1 = some (.int (l1)) → q4_get lv 2 = some (.ref (l2)) → q4_get lv 3 = some (.int (s.2)) → q4_get lv 4 = some (.int (s.1)) → q4_run f 132 5 lv [] M 0 0 = some r → ∃ lv M, q4_run F 132 37 lv [] M 0 0 = some r ∧ qa_O M ∧ qa_s M = σ ∧ q4_get lv 3 = some (.int ((qa_wh (fun s => s) (mc_132_73_p5 N l1 l2 σ) n s).2)) := by
  intro f
  induction f with
  | zero => intro n _ _ s lv M hM es _ _ _ _ _ h; cases h
  | succ f ih =>
    intro n hn hF s lv M hM es g0 g1 g2 g3 g4 h
    obtain ⟨n, rfl⟩ : ∃ n1, n = n1 + 1 := ⟨n - 1, by omega⟩
    replace hn : f ≤ n := Nat.le_of_succ_le_succ hn
    have hN := Nat.le_trans (Nat.le_of_succ_le hF) hN
    replace h := qa_iload (n := 4) (q := 7) (qa_d rfl h) rfl g4
    replace h := qa_push (z := (4 : Int32)) (q := 8) (qa_e rfl h) rfl (by decide)
    by_cases c1 : s.1 < (4 : Int32)
    · replace h := qa_iff (q := 11) (qa_e rfl h) rfl (qa_F_ge c1)
      replace h := qa_iload (n := 3) (q := 12) (qa_e rfl h) rfl g3
      replace h := qa_aload (n := 0) (q := 13) (qa_e rfl h) rfl g0
      replace h := qa_gr (b := 74) (j := 2) (q := 16) (qa_e rfl h) rfl hM rfl (by decide)
      replace h := qa_iload (n := 4) (q := 18) (qa_e rfl h) rfl g4
      replace h := qa_aaload (b := 75) (jn := s.1.toNatClampNeg) (q := 19) (qa_e rfl h) rfl hM rfl (by decide) (by decide +kernel)
      replace h := qa_iload (n := 1) (q := 20) (qa_e rfl h) rfl g1
      replace h := qa_iaload (jn := l1.toNatClampNeg) (q := 21) (qa_e rfl h) rfl hM es rfl
      replace h := qa_aload (n := 2) (q := 22) (qa_e rfl h) rfl g2
      replace h := qa_iload (n := 4) (q := 24) (qa_e rfl h) rfl g4
      replace h := qa_iaload (jn := s.1.toNatClampNeg) (q := 25) (qa_e rfl h) rfl hM es rfl
      replace h := qa_isub (q := 26) (qa_e rfl h) rfl
      obtain ⟨M, h, hM, es⟩ := qa_c1 (y := 113) (as := [.int (((σ (75 + s.1.toNatClampNeg) l1.toNatClampNeg) - (σ l2 s.1.toNatClampNeg)))]) (rest := [.int (s.2)]) (i := .invokestatic 113) (q := 29) (qa_e rfl h) (Or.inr rfl) rfl rfl (by decide) rfl (fun r hc => mb_113 hM es hc)
      replace h := qa_iadd (q := 30) (qa_e rfl h) rfl
      obtain ⟨lv, h, g, T⟩ := qa_istore (n := 3) (q := 31) (qa_e rfl h) rfl
      replace g0 := T _ _ g0 (by decide) (Or.inr rfl)
      replace g1 := T _ _ g1 (by decide) (Or.inr rfl)
      replace g2 := T _ _ g2 (by decide) (Or.inr rfl)
      replace g4 := T _ _ g4 (by decide) (Or.inr rfl)
      have g3 := g
      clear g T
      obtain ⟨lv, h, g, T⟩ := qa_iinc (n := 4) (z := (1 : Int32)) (q := 34) (qa_e rfl h) rfl (by decide) g4
      replace g0 := T _ _ g0 (by decide) (Or.inr rfl)
      replace g1 := T _ _ g1 (by decide) (Or.inr rfl)
      replace g2 := T _ _ g2 (by decide) (Or.inr rfl)
      replace g3 := T _ _ g3 (by decide) (Or.inr rfl)
      replace g4 := g
      clear g T
      replace h := qa_goto (q := 5) (qa_e rfl h) rfl
      have e0 : mc_132_73_p5 N l1 l2 σ s = .inl ((s.1 + (1 : Int32)), (s.2 + (ma_113 ((σ (75 + s.1.toNatClampNeg) l1.toNatClampNeg) - (σ l2 s.1.toNatClampNeg))))) := by exact Eq.trans (if_pos c1) (rfl)
      rw [qa_whl e0]
      exact ih n hn (Nat.le_of_succ_le hF) ((s.1 + (1 : Int32)), (s.2 + (ma_113 ((σ (75 + s.1.toNatClampNeg) l1.toNatClampNeg) - (σ l2 s.1.toNatClampNeg))))) _ _ hM es g0 g1 g2 g3 g4 h
    · replace h := qa_ift (q := 37) (qa_e rfl h) rfl (qa_T_ge c1)
      have e0 : mc_132_73_p5 N l1 l2 σ s = .inr (s.1, s.2) := by exact Eq.trans (if_neg c1) (rfl)
      rw [qa_whr e0]
      exact ⟨_, _, q61_mono f F _ _ _ _ _ _ _ _ (Nat.le_of_succ_le hF) h, hM, es, g3⟩
/-- BuriedBySevens$Glasses, distance, (I[I)I -/
noncomputable def ma_132_73 (N : Nat) (a1 : Int32) (a2 : Nat) (σ : qa_S) : Int32 :=
  qa_in ((qa_wh (fun s => s) (mc_132_73_p5 N a1 a2 σ) N ((0 : Int32), (0 : Int32)))) fun r1 =>
  r1.2
theorem mb_132_73 {f N : Nat} (hN : f ≤ N) {M : q4_M} {r : Option Value × q4_M} {σ : qa_S} {a1 : Int32} {a2 : Nat} (hM : qa_O M) (es : qa_s M = σ) (h : q4_run f 132 0 (lv_args 0 [.ref 73, .int (a1), .ref (a2)]) [] M 0 0 = some r) : r.1 = some (.int ((ma_132_73 N a1 a2 σ))) ∧ qa_O r.2 ∧ qa_s r.2 = σ := by
  obtain ⟨lv, el⟩ : ∃ l, l = lv_args 0 [.ref 73, .int (a1), .ref (a2)] := ⟨_, rfl⟩
  have g0 : q4_get lv 0 = some (.ref 73) := by rw [el]; rfl
  have g1 : q4_get lv 1 = some (.int (a1)) := by rw [el]; rfl
  have g2 : q4_get lv 2 = some (.ref (a2)) := by rw [el]; rfl
  rw [← el] at h
  clear el
  replace h := qa_push (z := (0 : Int32)) (q := 1) (qa_e rfl h) rfl (by decide)
  obtain ⟨lv, h, g, T⟩ := qa_istore (n := 3) (q := 2) (qa_e rfl h) rfl
  replace g0 := T _ _ g0 (by decide) (Or.inr rfl)
  replace g1 := T _ _ g1 (by decide) (Or.inr rfl)
  replace g2 := T _ _ g2 (by decide) (Or.inr rfl)
  have g3 := g
  clear g T
  replace h := qa_push (z := (0 : Int32)) (q := 3) (qa_e rfl h) rfl (by decide)
  obtain ⟨lv, h, g, T⟩ := qa_istore (n := 4) (q := 5) (qa_e rfl h) rfl
  replace g0 := T _ _ g0 (by decide) (Or.inr rfl)
  replace g1 := T _ _ g1 (by decide) (Or.inr rfl)
  replace g2 := T _ _ g2 (by decide) (Or.inr rfl)
  replace g3 := T _ _ g3 (by decide) (Or.inr rfl)
  have g4 := g
  clear g T
  obtain ⟨r1, er1⟩ : ∃ x, x = (qa_wh (fun s => s) (mc_132_73_p5 N a1 a2 σ) N ((0 : Int32), (0 : Int32))) := ⟨_, rfl⟩
  have L := md_132_73_p5 (l1 := a1) (l2 := a2) (σ := σ) (F := f) (N := N) (r := r) hN f N hN (Nat.le_refl f) ((0 : Int32), (0 : Int32)) _ _ hM es g0 g1 g2 g3 g4 h
  rw [← er1] at L
  obtain ⟨lv, M, h, hM, es, g3⟩ := L
  replace h := qa_iload (n := 3) (q := 38) (qa_e rfl h) rfl g3
  have er := qa_ri (qa_e rfl h)
  subst er
  have e0 : ma_132_73 N a1 a2 σ = r1.2 := by exact Eq.trans (qa_ie er1) (rfl)
  rw [e0]
  exact ⟨rfl, hM, es⟩
noncomputable def mc_131_3_p44 (N : Nat) (l1 : Int32) (s : Int32 × Int32 × qa_S) : (Int32 × Int32 × qa_S) ⊕ (Int32 × Int32 × qa_S) :=
  qa_in ((ma_72_3 N s.2.2)) fun m1 =>
  if s.1 < (m1 73 1) then
    qa_in ((ma_72_3 N m1)) fun m3 =>
    qa_in ((ma_132_73 N s.1 92 m3)) fun r4 =>
    qa_in ((ma_72_3 N m3)) fun m5 =>
    qa_in ((ma_132_73 N s.2.1 92 m5)) fun r6 =>
    .inl ((s.1 + (1 : Int32)), (if r4 < r6 then s.1 else s.2.1), m5)
  else
    .inr (s.1, s.2.1, m1)
theorem md_131_3_p44 {N F : Nat} {r : Option Value × q4_M} {l1 : Int32} (hN : F ≤ N) : ∀ f n, f ≤ n → f ≤ F → ∀ (s : Int32 × Int32 × qa_S) (lv : List (Nat × Value)) (M : q4_M), qa_O M → qa_s M = s.2.2 → q4_get lv 0 = some (.ref 3) → q4_get lv 1 = some (.int (l1)) → q4_get lv 2 = some (.int (s.2.1)) → q4_get lv 3 = some (.int (s.1)) → q4_run f 131 44 lv [] M 0 0 = some r → ∃ lv M, q4_run F 131 90 lv [] M 0 0 = some r ∧ qa_O M ∧ qa_s M = (qa_wh (fun s => s) (mc_131_3_p44 N l1) n s).2.2 ∧ q4_get lv 0 = some (.ref 3) ∧ q4_get lv 1 = some (.int (l1)) ∧ q4_get lv 2 = some (.int ((qa_wh (fun s => s) (mc_131_3_p44 N l1) n s).2.1)) := by
  intro f
  induction f with
  | zero => intro n _ _ s lv M hM es _ _ _ _ h; cases h
  | succ f ih =>
    intro n hn hF s lv M hM es g0 g1 g2 g3 h
    obtain ⟨n, rfl⟩ : ∃ n1, n = n1 + 1 := ⟨n - 1, by omega⟩
    replace hn : f ≤ n := Nat.le_of_succ_le_succ hn
    have hN := Nat.le_trans (Nat.le_of_succ_le hF) hN
    replace h := qa_iload (n := 3) (q := 45) (qa_d rfl h) rfl g3
    replace h := qa_aload (n := 0) (q := 46) (qa_e rfl h) rfl g0
    obtain ⟨m1, em1⟩ : ∃ x, x = (ma_72_3 N s.2.2) := ⟨_, rfl⟩
    obtain ⟨M, h, hM, es⟩ := qa_c1 (y := 72) (as := [.ref 3]) (rest := [.int (s.1)]) (i := .invokevirtual 72) (q := 49) (qa_e rfl h) (Or.inl rfl) rfl rfl (by decide) rfl (fun r hc => mb_72_3 hN hM es hc)
    rw [← em1] at es
    replace h := qa_gi (j := 1) (q := 52) (qa_e rfl h) rfl hM es rfl (by decide)
    by_cases c2 : s.1 < (m1 73 1)
    · replace h := qa_iff (q := 55) (qa_e rfl h) rfl (qa_F_ge c2)
      replace h := qa_aload (n := 0) (q := 56) (qa_e rfl h) rfl g0
      obtain ⟨m3, em3⟩ : ∃ x, x = (ma_72_3 N m1) := ⟨_, rfl⟩
      obtain ⟨M, h, hM, es⟩ := qa_c1 (y := 72) (as := [.ref 3]) (rest := []) (i := .invokevirtual 72) (q := 59) (qa_e rfl h) (Or.inl rfl) rfl rfl (by decide) rfl (fun r hc => mb_72_3 hN hM es hc)
      rw [← em3] at es
      replace h := qa_iload (n := 3) (q := 60) (qa_e rfl h) rfl g3
      replace h := qa_aload (n := 0) (q := 61) (qa_e rfl h) rfl g0
      replace h := qa_gr (b := 92) (j := 9) (q := 64) (qa_e rfl h) rfl hM rfl (by decide)
      obtain ⟨r4, er4⟩ : ∃ x, x = (ma_132_73 N s.1 92 m3) := ⟨_, rfl⟩
      obtain ⟨M, h, hM, es⟩ := qa_c1 (y := 132) (as := [.ref 73, .int (s.1), .ref 92]) (rest := []) (i := .invokevirtual 132) (q := 67) (qa_e rfl h) (Or.inl rfl) rfl rfl (by decide) rfl (fun r hc => mb_132_73 hN hM es hc)
      rw [← er4] at h
      replace h := qa_aload (n := 0) (q := 68) (qa_e rfl h) rfl g0
      obtain ⟨m5, em5⟩ : ∃ x, x = (ma_72_3 N m3) := ⟨_, rfl⟩
      obtain ⟨M, h, hM, es⟩ := qa_c1 (y := 72) (as := [.ref 3]) (rest := [.int (r4)]) (i := .invokevirtual 72) (q := 71) (qa_e rfl h) (Or.inl rfl) rfl rfl (by decide) rfl (fun r hc => mb_72_3 hN hM es hc)
      rw [← em5] at es
      replace h := qa_iload (n := 2) (q := 72) (qa_e rfl h) rfl g2
      replace h := qa_aload (n := 0) (q := 73) (qa_e rfl h) rfl g0
      replace h := qa_gr (b := 92) (j := 9) (q := 76) (qa_e rfl h) rfl hM rfl (by decide)
      obtain ⟨r6, er6⟩ : ∃ x, x = (ma_132_73 N s.2.1 92 m5) := ⟨_, rfl⟩
      obtain ⟨M, h, hM, es⟩ := qa_c1 (y := 132) (as := [.ref 73, .int (s.2.1), .ref 92]) (rest := [.int (r4)]) (i := .invokevirtual 132) (q := 79) (qa_e rfl h) (Or.inl rfl) rfl rfl (by decide) rfl (fun r hc => mb_132_73 hN hM es hc)
      rw [← er6] at h
      obtain ⟨lv, M, h, hM, es, g0, g1, g2, g3⟩ : ∃ lv M, q4_run f 131 84 lv [] M 0 0 = some r ∧ qa_O M ∧ qa_s M = m5 ∧ q4_get lv 0 = some (.ref 3) ∧ q4_get lv 1 = some (.int (l1)) ∧ q4_get lv 2 = some (.int ((if r4 < r6 then s.1 else s.2.1))) ∧ q4_get lv 3 = some (.int (s.1)) := by
        by_cases c7 : r4 < r6
        · replace h := qa_iff (q := 82) (qa_e rfl h) rfl (qa_F_ge c7)
          replace h := qa_iload (n := 3) (q := 83) (qa_e rfl h) rfl g3
          obtain ⟨lv, h, g, T⟩ := qa_istore (n := 2) (q := 84) (qa_e rfl h) rfl
          replace g0 := T _ _ g0 (by decide) (Or.inr rfl)
          replace g1 := T _ _ g1 (by decide) (Or.inr rfl)
          replace g3 := T _ _ g3 (by decide) (Or.inr rfl)
          have g2 := g
          clear g T
          exact ⟨lv, M, h, hM, es, g0, g1, (qa_gi1 c7 g2), g3⟩
        · replace h := qa_ift (q := 84) (qa_e rfl h) rfl (qa_T_ge c7)
          exact ⟨lv, M, h, hM, es, g0, g1, (qa_gi0 c7 g2), g3⟩
      obtain ⟨lv, h, g, T⟩ := qa_iinc (n := 3) (z := (1 : Int32)) (q := 87) (qa_e rfl h) rfl (by decide) g3
      replace g0 := T _ _ g0 (by decide) (Or.inr rfl)
      replace g1 := T _ _ g1 (by decide) (Or.inr rfl)
      replace g2 := T _ _ g2 (by decide) (Or.inr rfl)
      replace g3 := g
      clear g T
      replace h := qa_goto (q := 44) (qa_e rfl h) rfl
      have e0 : mc_131_3_p44 N l1 s = .inl ((s.1 + (1 : Int32)), (if r4 < r6 then s.1 else s.2.1), m5) := by exact Eq.trans (qa_ie em1) (Eq.trans (if_pos c2) (Eq.trans (qa_ie em3) (Eq.trans (qa_ie er4) (Eq.trans (qa_ie em5) (Eq.trans (qa_ie er6) (rfl))))))
      rw [qa_whl e0]
      exact ih n hn (Nat.le_of_succ_le hF) ((s.1 + (1 : Int32)), (if r4 < r6 then s.1 else s.2.1), m5) _ _ hM es g0 g1 g2 g3 h
    · replace h := qa_ift (q := 90) (qa_e rfl h) rfl (qa_T_ge c2)
      have e0 : mc_131_3_p44 N l1 s = .inr (s.1, s.2.1, m1) := by exact Eq.trans (qa_ie em1) (Eq.trans (if_neg c2) (rfl))
      rw [qa_whr e0]
      exact ⟨_, _, q61_mono f F _ _ _ _ _ _ _ _ (Nat.le_of_succ_le hF) h, hM, es, g0, g1, g2⟩
/-- BuriedBySevens, closest, (I)I -/
noncomputable def ma_131_3 (N : Nat) (a1 : Int32) (σ : qa_S) : Int32 × qa_S :=
  if a1 < (-1 : Int32) then
    qa_in ((ma_9_3 (-4 : Int32) σ)) fun r2 =>
    (r2.1, r2.2)
  else
    if (σ 3 16) = (4 : Int32) then
      if (σ 4 0) = (0 : Int32) then
        ((-9 : Int32), σ)
      else
        qa_in ((qa_wh (fun s => s) (mc_131_3_p44 N a1) N ((2 : Int32), (1 : Int32), σ))) fun r5 =>
        qa_in ((ma_72_3 N r5.2.2)) fun m7 =>
        qa_in ((ma_132_73 N r5.2.1 92 m7)) fun r8 =>
        qa_in ((ma_78_3 N r5.2.1 a1 r5.2.2)) fun r9 =>
        qa_in ((if a1 = (-1 : Int32) then m7 else r9.2)) fun m10 =>
        ((if a1 = (-1 : Int32) then r8 else r9.1), m10)
    else
      qa_in ((ma_9_3 (-3 : Int32) σ)) fun r11 =>
      (r11.1, r11.2)
theorem mb_131_3 {f N : Nat} (hN : f ≤ N) {M : q4_M} {r : Option Value × q4_M} {σ : qa_S} {a1 : Int32} (hM : qa_O M) (es : qa_s M = σ) (h : q4_run f 131 0 (lv_args 0 [.ref 3, .int (a1)]) [] M 0 0 = some r) : r.1 = some (.int ((ma_131_3 N a1 σ).1)) ∧ qa_O r.2 ∧ qa_s r.2 = (ma_131_3 N a1 σ).2 := by
  obtain ⟨lv, el⟩ : ∃ l, l = lv_args 0 [.ref 3, .int (a1)] := ⟨_, rfl⟩
  have g0 : q4_get lv 0 = some (.ref 3) := by rw [el]; rfl
  have g1 : q4_get lv 1 = some (.int (a1)) := by rw [el]; rfl
  rw [← el] at h
  clear el
  replace h := qa_iload (n := 1) (q := 1) (qa_e rfl h) rfl g1
  replace h := qa_push (z := (-1 : Int32)) (q := 2) (qa_e rfl h) rfl (by decide)
  by_cases c1 : a1 < (-1 : Int32)
  · replace h := qa_iff (q := 5) (qa_e rfl h) rfl (qa_F_ge c1)
    replace h := qa_aload (n := 0) (q := 6) (qa_e rfl h) rfl g0
    replace h := qa_push (z := (-4 : Int32)) (q := 8) (qa_e rfl h) rfl (by decide)
    obtain ⟨r2, er2⟩ : ∃ x, x = (ma_9_3 (-4 : Int32) σ) := ⟨_, rfl⟩
    obtain ⟨M, h, hM, es⟩ := qa_c1 (y := 9) (as := [.ref 3, .int ((-4 : Int32))]) (rest := []) (i := .invokevirtual 9) (q := 11) (qa_e rfl h) (Or.inl rfl) rfl rfl (by decide) rfl (fun r hc => mb_9_3 hM es hc)
    rw [← er2] at h es
    have er := qa_ri (qa_e rfl h)
    subst er
    have e0 : ma_131_3 N a1 σ = (r2.1, r2.2) := by exact Eq.trans (if_pos c1) (Eq.trans (qa_ie er2) (rfl))
    rw [e0]
    exact ⟨rfl, hM, es⟩
  · replace h := qa_ift (q := 12) (qa_e rfl h) rfl (qa_T_ge c1)
    replace h := qa_aload (n := 0) (q := 13) (qa_e rfl h) rfl g0
    replace h := qa_gi (j := 16) (q := 16) (qa_e rfl h) rfl hM es rfl (by decide)
    replace h := qa_push (z := (4 : Int32)) (q := 17) (qa_e rfl h) rfl (by decide)
    by_cases c3 : (σ 3 16) = (4 : Int32)
    · replace h := qa_ift (q := 27) (qa_e rfl h) rfl (qa_T_eq c3)
      replace h := qa_aload (n := 0) (q := 28) (qa_e rfl h) rfl g0
      replace h := qa_gr (b := 4) (j := 0) (q := 31) (qa_e rfl h) rfl hM rfl (by decide)
      replace h := qa_gi (j := 0) (q := 34) (qa_e rfl h) rfl hM es rfl (by decide)
      by_cases c4 : (σ 4 0) = (0 : Int32)
      · replace h := qa_icf (q := 37) (qa_e rfl h) rfl (qa_F_ne c4)
        replace h := qa_push (z := (-9 : Int32)) (q := 39) (qa_e rfl h) rfl (by decide)
        have er := qa_ri (qa_e rfl h)
        subst er
        have e0 : ma_131_3 N a1 σ = ((-9 : Int32), σ) := by exact Eq.trans (if_neg c1) (Eq.trans (if_pos c3) (Eq.trans (if_pos c4) (rfl)))
        rw [e0]
        exact ⟨rfl, hM, es⟩
      · replace h := qa_ict (q := 40) (qa_e rfl h) rfl (qa_T_ne c4)
        replace h := qa_push (z := (1 : Int32)) (q := 41) (qa_e rfl h) rfl (by decide)
        obtain ⟨lv, h, g, T⟩ := qa_istore (n := 2) (q := 42) (qa_e rfl h) rfl
        replace g0 := T _ _ g0 (by decide) (Or.inr rfl)
        replace g1 := T _ _ g1 (by decide) (Or.inr rfl)
        have g2 := g
        clear g T
        replace h := qa_push (z := (2 : Int32)) (q := 43) (qa_e rfl h) rfl (by decide)
        obtain ⟨lv, h, g, T⟩ := qa_istore (n := 3) (q := 44) (qa_e rfl h) rfl
        replace g0 := T _ _ g0 (by decide) (Or.inr rfl)
        replace g1 := T _ _ g1 (by decide) (Or.inr rfl)
        replace g2 := T _ _ g2 (by decide) (Or.inr rfl)
        have g3 := g
        clear g T
        obtain ⟨r5, er5⟩ : ∃ x, x = (qa_wh (fun s => s) (mc_131_3_p44 N a1) N ((2 : Int32), (1 : Int32), σ)) := ⟨_, rfl⟩
        have L := md_131_3_p44 (l1 := a1) (F := f) (N := N) (r := r) hN f N hN (Nat.le_refl f) ((2 : Int32), (1 : Int32), σ) _ _ hM es g0 g1 g2 g3 h
        rw [← er5] at L
        obtain ⟨lv, M, h, hM, es, g0, g1, g2⟩ := L
        replace h := qa_iload (n := 1) (q := 91) (qa_e rfl h) rfl g1
        replace h := qa_push (z := (-1 : Int32)) (q := 92) (qa_e rfl h) rfl (by decide)
        obtain ⟨m7, em7⟩ : ∃ x, x = (ma_72_3 N r5.2.2) := ⟨_, rfl⟩
        obtain ⟨r8, er8⟩ : ∃ x, x = (ma_132_73 N r5.2.1 92 m7) := ⟨_, rfl⟩
        obtain ⟨r9, er9⟩ : ∃ x, x = (ma_78_3 N r5.2.1 a1 r5.2.2) := ⟨_, rfl⟩
        obtain ⟨m10, em10⟩ : ∃ x, x = (if a1 = (-1 : Int32) then m7 else r9.2) := ⟨_, rfl⟩
        obtain ⟨lv, M, h, hM, es⟩ : ∃ lv M, q4_run f 131 116 lv [.int ((if a1 = (-1 : Int32) then r8 else r9.1))] M 0 0 = some r ∧ qa_O M ∧ qa_s M = m10 := by
          by_cases c6 : a1 = (-1 : Int32)
          · replace h := qa_iff (q := 95) (qa_e rfl h) rfl (qa_F_ne c6)
            replace h := qa_aload (n := 0) (q := 96) (qa_e rfl h) rfl g0
            obtain ⟨M, h, hM, es⟩ := qa_c1 (y := 72) (as := [.ref 3]) (rest := []) (i := .invokevirtual 72) (q := 99) (qa_e rfl h) (Or.inl rfl) rfl rfl (by decide) rfl (fun r hc => mb_72_3 hN hM es hc)
            rw [← em7] at es
            replace h := qa_iload (n := 2) (q := 100) (qa_e rfl h) rfl g2
            replace h := qa_aload (n := 0) (q := 101) (qa_e rfl h) rfl g0
            replace h := qa_gr (b := 92) (j := 9) (q := 104) (qa_e rfl h) rfl hM rfl (by decide)
            obtain ⟨M, h, hM, es⟩ := qa_c1 (y := 132) (as := [.ref 73, .int (r5.2.1), .ref 92]) (rest := []) (i := .invokevirtual 132) (q := 107) (qa_e rfl h) (Or.inl rfl) rfl rfl (by decide) rfl (fun r hc => mb_132_73 hN hM es hc)
            rw [← er8] at h
            replace h := qa_goto (q := 116) (qa_e rfl h) rfl
            exact ⟨lv, M, (qa_hi1 c6 h), hM, ((qa_ms1 c6 es).trans em10.symm)⟩
          · replace h := qa_ift (q := 110) (qa_e rfl h) rfl (qa_T_ne c6)
            replace h := qa_aload (n := 0) (q := 111) (qa_e rfl h) rfl g0
            replace h := qa_iload (n := 2) (q := 112) (qa_e rfl h) rfl g2
            replace h := qa_iload (n := 1) (q := 113) (qa_e rfl h) rfl g1
            obtain ⟨M, h, hM, es⟩ := qa_c1 (y := 78) (as := [.ref 3, .int (r5.2.1), .int (a1)]) (rest := []) (i := .invokevirtual 78) (q := 116) (qa_e rfl h) (Or.inl rfl) rfl rfl (by decide) rfl (fun r hc => mb_78_3 hN hM es hc)
            rw [← er9] at h es
            exact ⟨lv, M, (qa_hi0 c6 h), hM, ((qa_ms0 c6 es).trans em10.symm)⟩
        have er := qa_ri (qa_e rfl h)
        subst er
        have e0 : ma_131_3 N a1 σ = ((if a1 = (-1 : Int32) then r8 else r9.1), m10) := by exact Eq.trans (if_neg c1) (Eq.trans (if_pos c3) (Eq.trans (if_neg c4) (Eq.trans (qa_ie er5) (Eq.trans (qa_ie em7) (Eq.trans (qa_ie er8) (Eq.trans (qa_ie er9) (Eq.trans (qa_ie em10) (rfl))))))))
        rw [e0]
        exact ⟨rfl, hM, es⟩
    · replace h := qa_iff (q := 20) (qa_e rfl h) rfl (qa_F_eq c3)
      replace h := qa_aload (n := 0) (q := 21) (qa_e rfl h) rfl g0
      replace h := qa_push (z := (-3 : Int32)) (q := 23) (qa_e rfl h) rfl (by decide)
      obtain ⟨r11, er11⟩ : ∃ x, x = (ma_9_3 (-3 : Int32) σ) := ⟨_, rfl⟩
      obtain ⟨M, h, hM, es⟩ := qa_c1 (y := 9) (as := [.ref 3, .int ((-3 : Int32))]) (rest := []) (i := .invokevirtual 9) (q := 26) (qa_e rfl h) (Or.inl rfl) rfl rfl (by decide) rfl (fun r hc => mb_9_3 hM es hc)
      rw [← er11] at h es
      have er := qa_ri (qa_e rfl h)
      subst er
      have e0 : ma_131_3 N a1 σ = (r11.1, r11.2) := by exact Eq.trans (if_neg c1) (Eq.trans (if_neg c3) (Eq.trans (qa_ie er11) (rfl)))
      rw [e0]
      exact ⟨rfl, hM, es⟩
noncomputable def mc_134_3_p14 (N : Nat) (l1 : Int32) (l2 : Int32) (σ : qa_S) (s : Int32 × Int32) : (Int32 × Int32) ⊕ (Int32 × Int32) :=
  if s.1 < (σ 4 0) then
    qa_in ((ma_95_4 N s.1 σ)) fun r2 =>
    qa_in ((ma_95_4 N s.1 σ)) fun r4 =>
    .inl ((s.1 + (1 : Int32)), (if l2 < r2 then (s.2 + (1 : Int32)) else (if r4 = l2 then (if s.1 < l1 then (s.2 + (1 : Int32)) else s.2) else s.2)))
  else
    .inr (s.1, s.2)
theorem md_134_3_p14 {N F : Nat} {r : Option Value × q4_M} {l1 : Int32} {l2 : Int32} {σ : qa_S} (hN : F ≤ N) : ∀ f n, f ≤ n → f ≤ F → ∀ (s : Int32 × Int32) (lv : List (Nat × Value)) (M : q4_M), qa_O M → qa_s M = σ → q4_get lv 0 = some (.ref 3) → q4_get lv 1 = some (.int (l1)) → q4_get lv 2 = some (.int (l2)) → q4_get lv 3 = some (.int (s.2)) → q4_get lv 4 = some (.int (s.1)) → q4_run f 134 14 lv [] M 0 0 = some r → ∃ lv M, q4_run F 134 67 lv [] M 0 0 = some r ∧ qa_O M ∧ qa_s M = σ ∧ q4_get lv 3 = some (.int ((qa_wh (fun s => s) (mc_134_3_p14 N l1 l2 σ) n s).2)) := by
  intro f
  induction f with
  | zero => intro n _ _ s lv M hM es _ _ _ _ _ h; cases h
  | succ f ih =>
    intro n hn hF s lv M hM es g0 g1 g2 g3 g4 h
    obtain ⟨n, rfl⟩ : ∃ n1, n = n1 + 1 := ⟨n - 1, by omega⟩
    replace hn : f ≤ n := Nat.le_of_succ_le_succ hn
    have hN := Nat.le_trans (Nat.le_of_succ_le hF) hN
    replace h := qa_iload (n := 4) (q := 16) (qa_d rfl h) rfl g4
    replace h := qa_aload (n := 0) (q := 17) (qa_e rfl h) rfl g0
    replace h := qa_gr (b := 4) (j := 0) (q := 20) (qa_e rfl h) rfl hM rfl (by decide)
    replace h := qa_gi (j := 0) (q := 23) (qa_e rfl h) rfl hM es rfl (by decide)
    by_cases c1 : s.1 < (σ 4 0)
    · replace h := qa_iff (q := 26) (qa_e rfl h) rfl (qa_F_ge c1)
      replace h := qa_aload (n := 0) (q := 27) (qa_e rfl h) rfl g0
      replace h := qa_gr (b := 4) (j := 0) (q := 30) (qa_e rfl h) rfl hM rfl (by decide)
      replace h := qa_iload (n := 4) (q := 32) (qa_e rfl h) rfl g4
      obtain ⟨r2, er2⟩ : ∃ x, x = (ma_95_4 N s.1 σ) := ⟨_, rfl⟩
      obtain ⟨M, h, hM, es⟩ := qa_c1 (y := 95) (as := [.ref 4, .int (s.1)]) (rest := []) (i := .invokevirtual 95) (q := 35) (qa_e rfl h) (Or.inl rfl) rfl rfl (by decide) rfl (fun r hc => mb_95_4 hN hM es hc)
      rw [← er2] at h
      replace h := qa_iload (n := 2) (q := 36) (qa_e rfl h) rfl g2
      obtain ⟨r4, er4⟩ : ∃ x, x = (ma_95_4 N s.1 σ) := ⟨_, rfl⟩
      obtain ⟨lv, M, h, hM, es, g0, g1, g2, g3, g4⟩ : ∃ lv M, q4_run f 134 61 lv [] M 0 0 = some r ∧ qa_O M ∧ qa_s M = σ ∧ q4_get lv 0 = some (.ref 3) ∧ q4_get lv 1 = some (.int (l1)) ∧ q4_get lv 2 = some (.int (l2)) ∧ q4_get lv 3 = some (.int ((if l2 < r2 then (s.2 + (1 : Int32)) else (if r4 = l2 then (if s.1 < l1 then (s.2 + (1 : Int32)) else s.2) else s.2)))) ∧ q4_get lv 4 = some (.int (s.1)) := by
        by_cases c3 : l2 < r2
        · replace h := qa_ift (q := 58) (qa_e rfl h) rfl (qa_T_gt c3)
          obtain ⟨lv, h, g, T⟩ := qa_iinc (n := 3) (z := (1 : Int32)) (q := 61) (qa_e rfl h) rfl (by decide) g3
          replace g0 := T _ _ g0 (by decide) (Or.inr rfl)
          replace g1 := T _ _ g1 (by decide) (Or.inr rfl)
          replace g2 := T _ _ g2 (by decide) (Or.inr rfl)
          replace g4 := T _ _ g4 (by decide) (Or.inr rfl)
          replace g3 := g
          clear g T
          exact ⟨lv, M, h, hM, es, g0, g1, g2, (qa_gi1 c3 g3), g4⟩
        · replace h := qa_iff (q := 39) (qa_e rfl h) rfl (qa_F_gt c3)
          replace h := qa_aload (n := 0) (q := 40) (qa_e rfl h) rfl g0
          replace h := qa_gr (b := 4) (j := 0) (q := 43) (qa_e rfl h) rfl hM rfl (by decide)
          replace h := qa_iload (n := 4) (q := 45) (qa_e rfl h) rfl g4
          obtain ⟨M, h, hM, es⟩ := qa_c1 (y := 95) (as := [.ref 4, .int (s.1)]) (rest := []) (i := .invokevirtual 95) (q := 48) (qa_e rfl h) (Or.inl rfl) rfl rfl (by decide) rfl (fun r hc => mb_95_4 hN hM es hc)
          rw [← er4] at h
          replace h := qa_iload (n := 2) (q := 49) (qa_e rfl h) rfl g2
          obtain ⟨lv, M, h, hM, es, g0, g1, g2, g3, g4⟩ : ∃ lv M, q4_run f 134 61 lv [] M 0 0 = some r ∧ qa_O M ∧ qa_s M = σ ∧ q4_get lv 0 = some (.ref 3) ∧ q4_get lv 1 = some (.int (l1)) ∧ q4_get lv 2 = some (.int (l2)) ∧ q4_get lv 3 = some (.int ((if r4 = l2 then (if s.1 < l1 then (s.2 + (1 : Int32)) else s.2) else s.2))) ∧ q4_get lv 4 = some (.int (s.1)) := by
            by_cases c5 : r4 = l2
            · replace h := qa_iff (q := 52) (qa_e rfl h) rfl (qa_F_ne c5)
              replace h := qa_iload (n := 4) (q := 54) (qa_e rfl h) rfl g4
              replace h := qa_iload (n := 1) (q := 55) (qa_e rfl h) rfl g1
              obtain ⟨lv, M, h, hM, es, g0, g1, g2, g3, g4⟩ : ∃ lv M, q4_run f 134 61 lv [] M 0 0 = some r ∧ qa_O M ∧ qa_s M = σ ∧ q4_get lv 0 = some (.ref 3) ∧ q4_get lv 1 = some (.int (l1)) ∧ q4_get lv 2 = some (.int (l2)) ∧ q4_get lv 3 = some (.int ((if s.1 < l1 then (s.2 + (1 : Int32)) else s.2))) ∧ q4_get lv 4 = some (.int (s.1)) := by
                by_cases c6 : s.1 < l1
                · replace h := qa_iff (q := 58) (qa_e rfl h) rfl (qa_F_ge c6)
                  obtain ⟨lv, h, g, T⟩ := qa_iinc (n := 3) (z := (1 : Int32)) (q := 61) (qa_e rfl h) rfl (by decide) g3
                  replace g0 := T _ _ g0 (by decide) (Or.inr rfl)
                  replace g1 := T _ _ g1 (by decide) (Or.inr rfl)
                  replace g2 := T _ _ g2 (by decide) (Or.inr rfl)
                  replace g4 := T _ _ g4 (by decide) (Or.inr rfl)
                  replace g3 := g
                  clear g T
                  exact ⟨lv, M, h, hM, es, g0, g1, g2, (qa_gi1 c6 g3), g4⟩
                · replace h := qa_ift (q := 61) (qa_e rfl h) rfl (qa_T_ge c6)
                  exact ⟨lv, M, h, hM, es, g0, g1, g2, (qa_gi0 c6 g3), g4⟩
              exact ⟨lv, M, h, hM, es, g0, g1, g2, (qa_gi1 c5 g3), g4⟩
            · replace h := qa_ift (q := 61) (qa_e rfl h) rfl (qa_T_ne c5)
              exact ⟨lv, M, h, hM, es, g0, g1, g2, (qa_gi0 c5 g3), g4⟩
          exact ⟨lv, M, h, hM, es, g0, g1, g2, (qa_gi0 c3 g3), g4⟩
      obtain ⟨lv, h, g, T⟩ := qa_iinc (n := 4) (z := (1 : Int32)) (q := 64) (qa_e rfl h) rfl (by decide) g4
      replace g0 := T _ _ g0 (by decide) (Or.inr rfl)
      replace g1 := T _ _ g1 (by decide) (Or.inr rfl)
      replace g2 := T _ _ g2 (by decide) (Or.inr rfl)
      replace g3 := T _ _ g3 (by decide) (Or.inr rfl)
      replace g4 := g
      clear g T
      replace h := qa_goto (q := 14) (qa_e rfl h) rfl
      have e0 : mc_134_3_p14 N l1 l2 σ s = .inl ((s.1 + (1 : Int32)), (if l2 < r2 then (s.2 + (1 : Int32)) else (if r4 = l2 then (if s.1 < l1 then (s.2 + (1 : Int32)) else s.2) else s.2))) := by exact Eq.trans (if_pos c1) (Eq.trans (qa_ie er2) (Eq.trans (qa_ie er4) (rfl)))
      rw [qa_whl e0]
      exact ih n hn (Nat.le_of_succ_le hF) ((s.1 + (1 : Int32)), (if l2 < r2 then (s.2 + (1 : Int32)) else (if r4 = l2 then (if s.1 < l1 then (s.2 + (1 : Int32)) else s.2) else s.2))) _ _ hM es g0 g1 g2 g3 g4 h
    · replace h := qa_ift (q := 67) (qa_e rfl h) rfl (qa_T_ge c1)
      have e0 : mc_134_3_p14 N l1 l2 σ s = .inr (s.1, s.2) := by exact Eq.trans (if_neg c1) (rfl)
      rw [qa_whr e0]
      exact ⟨_, _, q61_mono f F _ _ _ _ _ _ _ _ (Nat.le_of_succ_le hF) h, hM, es, g3⟩
/-- BuriedBySevens, howManyStronger, (I)I -/
noncomputable def ma_134_3 (N : Nat) (a1 : Int32) (σ : qa_S) : Int32 :=
  qa_in ((ma_95_4 N a1 σ)) fun r1 =>
  qa_in ((qa_wh (fun s => s) (mc_134_3_p14 N a1 r1 σ) N ((0 : Int32), (0 : Int32)))) fun r2 =>
  r2.2
theorem mb_134_3 {f N : Nat} (hN : f ≤ N) {M : q4_M} {r : Option Value × q4_M} {σ : qa_S} {a1 : Int32} (hM : qa_O M) (es : qa_s M = σ) (h : q4_run f 134 0 (lv_args 0 [.ref 3, .int (a1)]) [] M 0 0 = some r) : r.1 = some (.int ((ma_134_3 N a1 σ))) ∧ qa_O r.2 ∧ qa_s r.2 = σ := by
  obtain ⟨lv, el⟩ : ∃ l, l = lv_args 0 [.ref 3, .int (a1)] := ⟨_, rfl⟩
  have g0 : q4_get lv 0 = some (.ref 3) := by rw [el]; rfl
  have g1 : q4_get lv 1 = some (.int (a1)) := by rw [el]; rfl
  rw [← el] at h
  clear el
  replace h := qa_aload (n := 0) (q := 1) (qa_e rfl h) rfl g0
  replace h := qa_gr (b := 4) (j := 0) (q := 4) (qa_e rfl h) rfl hM rfl (by decide)
  replace h := qa_iload (n := 1) (q := 5) (qa_e rfl h) rfl g1
  obtain ⟨r1, er1⟩ : ∃ x, x = (ma_95_4 N a1 σ) := ⟨_, rfl⟩
  obtain ⟨M, h, hM, es⟩ := qa_c1 (y := 95) (as := [.ref 4, .int (a1)]) (rest := []) (i := .invokevirtual 95) (q := 8) (qa_e rfl h) (Or.inl rfl) rfl rfl (by decide) rfl (fun r hc => mb_95_4 hN hM es hc)
  rw [← er1] at h
  obtain ⟨lv, h, g, T⟩ := qa_istore (n := 2) (q := 9) (qa_e rfl h) rfl
  replace g0 := T _ _ g0 (by decide) (Or.inr rfl)
  replace g1 := T _ _ g1 (by decide) (Or.inr rfl)
  have g2 := g
  clear g T
  replace h := qa_push (z := (0 : Int32)) (q := 10) (qa_e rfl h) rfl (by decide)
  obtain ⟨lv, h, g, T⟩ := qa_istore (n := 3) (q := 11) (qa_e rfl h) rfl
  replace g0 := T _ _ g0 (by decide) (Or.inr rfl)
  replace g1 := T _ _ g1 (by decide) (Or.inr rfl)
  replace g2 := T _ _ g2 (by decide) (Or.inr rfl)
  have g3 := g
  clear g T
  replace h := qa_push (z := (0 : Int32)) (q := 12) (qa_e rfl h) rfl (by decide)
  obtain ⟨lv, h, g, T⟩ := qa_istore (n := 4) (q := 14) (qa_e rfl h) rfl
  replace g0 := T _ _ g0 (by decide) (Or.inr rfl)
  replace g1 := T _ _ g1 (by decide) (Or.inr rfl)
  replace g2 := T _ _ g2 (by decide) (Or.inr rfl)
  replace g3 := T _ _ g3 (by decide) (Or.inr rfl)
  have g4 := g
  clear g T
  obtain ⟨r2, er2⟩ : ∃ x, x = (qa_wh (fun s => s) (mc_134_3_p14 N a1 r1 σ) N ((0 : Int32), (0 : Int32))) := ⟨_, rfl⟩
  have L := md_134_3_p14 (l1 := a1) (l2 := r1) (σ := σ) (F := f) (N := N) (r := r) hN f N hN (Nat.le_refl f) ((0 : Int32), (0 : Int32)) _ _ hM es g0 g1 g2 g3 g4 h
  rw [← er2] at L
  obtain ⟨lv, M, h, hM, es, g3⟩ := L
  replace h := qa_iload (n := 3) (q := 68) (qa_e rfl h) rfl g3
  have er := qa_ri (qa_e rfl h)
  subst er
  have e0 : ma_134_3 N a1 σ = r2.2 := by exact Eq.trans (qa_ie er1) (Eq.trans (qa_ie er2) (rfl))
  rw [e0]
  exact ⟨rfl, hM, es⟩
noncomputable def mc_133_3_p13 (N : Nat) (l1 : Int32) (σ : qa_S) (s : Int32) : (Int32) ⊕ ((Int32) ⊕ (Int32)) :=
  if s < (σ 4 0) then
    qa_in ((ma_134_3 N s σ)) fun r2 =>
    if r2 = l1 then
      .inr (.inl s)
    else
      .inl (s + (1 : Int32))
  else
    .inr (.inr s)
theorem md_133_3_p13 {N F : Nat} {r : Option Value × q4_M} {l1 : Int32} {σ : qa_S} (hN : F ≤ N) : ∀ f n, f ≤ n → f ≤ F → ∀ (s : Int32) (lv : List (Nat × Value)) (M : q4_M), qa_O M → qa_s M = σ → q4_get lv 0 = some (.ref 3) → q4_get lv 1 = some (.int (l1)) → q4_get lv 2 = some (.int (s)) → q4_run f 133 13 lv [] M 0 0 = some r → (∀ b, (qa_wh (fun s => .inr s) (mc_133_3_p13 N l1 σ) n s) = .inl b → r.1 = some (.int (b)) ∧ qa_O r.2 ∧ qa_s r.2 = σ) ∧ (∀ b, (qa_wh (fun s => .inr s) (mc_133_3_p13 N l1 σ) n s) = .inr b → ∃ lv M, q4_run F 133 41 lv [] M 0 0 = some r ∧ qa_O M ∧ qa_s M = σ) := by
  intro f
  induction f with
  | zero => intro n _ _ s lv M hM es _ _ _ h; cases h
  | succ f ih =>
    intro n hn hF s lv M hM es g0 g1 g2 h
    obtain ⟨n, rfl⟩ : ∃ n1, n = n1 + 1 := ⟨n - 1, by omega⟩
    replace hn : f ≤ n := Nat.le_of_succ_le_succ hn
    have hN := Nat.le_trans (Nat.le_of_succ_le hF) hN
    replace h := qa_iload (n := 2) (q := 14) (qa_d rfl h) rfl g2
    replace h := qa_aload (n := 0) (q := 15) (qa_e rfl h) rfl g0
    replace h := qa_gr (b := 4) (j := 0) (q := 18) (qa_e rfl h) rfl hM rfl (by decide)
    replace h := qa_gi (j := 0) (q := 21) (qa_e rfl h) rfl hM es rfl (by decide)
    by_cases c1 : s < (σ 4 0)
    · replace h := qa_iff (q := 24) (qa_e rfl h) rfl (qa_F_ge c1)
      replace h := qa_aload (n := 0) (q := 25) (qa_e rfl h) rfl g0
      replace h := qa_iload (n := 2) (q := 26) (qa_e rfl h) rfl g2
      obtain ⟨r2, er2⟩ : ∃ x, x = (ma_134_3 N s σ) := ⟨_, rfl⟩
      obtain ⟨M, h, hM, es⟩ := qa_c1 (y := 134) (as := [.ref 3, .int (s)]) (rest := []) (i := .invokevirtual 134) (q := 29) (qa_e rfl h) (Or.inl rfl) rfl rfl (by decide) rfl (fun r hc => mb_134_3 hN hM es hc)
      rw [← er2] at h
      replace h := qa_iload (n := 1) (q := 30) (qa_e rfl h) rfl g1
      by_cases c3 : r2 = l1
      · replace h := qa_iff (q := 33) (qa_e rfl h) rfl (qa_F_ne c3)
        replace h := qa_iload (n := 2) (q := 34) (qa_e rfl h) rfl g2
        have er := qa_ri (qa_e rfl h)
        subst er
        have e0 : mc_133_3_p13 N l1 σ s = .inr (.inl s) := by exact Eq.trans (if_pos c1) (Eq.trans (qa_ie er2) (Eq.trans (if_pos c3) (rfl)))
        rw [qa_whr e0]
        exact ⟨fun b hb => (by have e := Sum.inl.inj hb; subst e; exact ⟨rfl, hM, es⟩), fun b hb => nomatch hb⟩
      · replace h := qa_ift (q := 35) (qa_e rfl h) rfl (qa_T_ne c3)
        obtain ⟨lv, h, g, T⟩ := qa_iinc (n := 2) (z := (1 : Int32)) (q := 38) (qa_e rfl h) rfl (by decide) g2
        replace g0 := T _ _ g0 (by decide) (Or.inr rfl)
        replace g1 := T _ _ g1 (by decide) (Or.inr rfl)
        replace g2 := g
        clear g T
        replace h := qa_goto (q := 13) (qa_e rfl h) rfl
        have e0 : mc_133_3_p13 N l1 σ s = .inl (s + (1 : Int32)) := by exact Eq.trans (if_pos c1) (Eq.trans (qa_ie er2) (Eq.trans (if_neg c3) (rfl)))
        rw [qa_whl e0]
        exact ih n hn (Nat.le_of_succ_le hF) (s + (1 : Int32)) _ _ hM es g0 g1 g2 h
    · replace h := qa_ift (q := 41) (qa_e rfl h) rfl (qa_T_ge c1)
      have e0 : mc_133_3_p13 N l1 σ s = .inr (.inr s) := by exact Eq.trans (if_neg c1) (rfl)
      rw [qa_whr e0]
      exact ⟨fun b hb => (nomatch hb), fun b hb => (by have e := Sum.inr.inj hb; subst e; exact ⟨_, _, q61_mono f F _ _ _ _ _ _ _ _ (Nat.le_of_succ_le hF) h, hM, es⟩)⟩
/-- BuriedBySevens, rank, (I)I -/
noncomputable def ma_133_3 (N : Nat) (a1 : Int32) (σ : qa_S) : Int32 × qa_S :=
  if a1 < (0 : Int32) then
    qa_in ((ma_9_3 (-4 : Int32) σ)) fun r2 =>
    (r2.1, r2.2)
  else
    qa_in ((qa_wh (fun s => .inr s) (mc_133_3_p13 N a1 σ) N (0 : Int32))) fun r3 =>
    qa_cs r3
      (fun b4 =>
        (b4, σ))
      (fun b4 =>
        ((-9 : Int32), σ))
theorem mb_133_3 {f N : Nat} (hN : f ≤ N) {M : q4_M} {r : Option Value × q4_M} {σ : qa_S} {a1 : Int32} (hM : qa_O M) (es : qa_s M = σ) (h : q4_run f 133 0 (lv_args 0 [.ref 3, .int (a1)]) [] M 0 0 = some r) : r.1 = some (.int ((ma_133_3 N a1 σ).1)) ∧ qa_O r.2 ∧ qa_s r.2 = (ma_133_3 N a1 σ).2 := by
  obtain ⟨lv, el⟩ : ∃ l, l = lv_args 0 [.ref 3, .int (a1)] := ⟨_, rfl⟩
  have g0 : q4_get lv 0 = some (.ref 3) := by rw [el]; rfl
  have g1 : q4_get lv 1 = some (.int (a1)) := by rw [el]; rfl
  rw [← el] at h
  clear el
  replace h := qa_iload (n := 1) (q := 1) (qa_e rfl h) rfl g1
  by_cases c1 : a1 < (0 : Int32)
  · replace h := qa_icf (q := 4) (qa_e rfl h) rfl (qa_F_ge c1)
    replace h := qa_aload (n := 0) (q := 5) (qa_e rfl h) rfl g0
    replace h := qa_push (z := (-4 : Int32)) (q := 7) (qa_e rfl h) rfl (by decide)
    obtain ⟨r2, er2⟩ : ∃ x, x = (ma_9_3 (-4 : Int32) σ) := ⟨_, rfl⟩
    obtain ⟨M, h, hM, es⟩ := qa_c1 (y := 9) (as := [.ref 3, .int ((-4 : Int32))]) (rest := []) (i := .invokevirtual 9) (q := 10) (qa_e rfl h) (Or.inl rfl) rfl rfl (by decide) rfl (fun r hc => mb_9_3 hM es hc)
    rw [← er2] at h es
    have er := qa_ri (qa_e rfl h)
    subst er
    have e0 : ma_133_3 N a1 σ = (r2.1, r2.2) := by exact Eq.trans (if_pos c1) (Eq.trans (qa_ie er2) (rfl))
    rw [e0]
    exact ⟨rfl, hM, es⟩
  · replace h := qa_ict (q := 11) (qa_e rfl h) rfl (qa_T_ge c1)
    replace h := qa_push (z := (0 : Int32)) (q := 12) (qa_e rfl h) rfl (by decide)
    obtain ⟨lv, h, g, T⟩ := qa_istore (n := 2) (q := 13) (qa_e rfl h) rfl
    replace g0 := T _ _ g0 (by decide) (Or.inr rfl)
    replace g1 := T _ _ g1 (by decide) (Or.inr rfl)
    have g2 := g
    clear g T
    obtain ⟨r3, er3⟩ : ∃ x, x = (qa_wh (fun s => .inr s) (mc_133_3_p13 N a1 σ) N (0 : Int32)) := ⟨_, rfl⟩
    have L := md_133_3_p13 (l1 := a1) (σ := σ) (F := f) (N := N) (r := r) hN f N hN (Nat.le_refl f) (0 : Int32) _ _ hM es g0 g1 g2 h
    rw [← er3] at L
    rcases qr3 : r3 with b4 | b4
    · obtain ⟨h, hM, es⟩ := L.1 b4 qr3
      have e0 : ma_133_3 N a1 σ = (b4, σ) := by exact Eq.trans (if_neg c1) (Eq.trans (qa_ie er3) (Eq.trans (qa_csl qr3 _ _) (rfl)))
      rw [e0]
      exact ⟨h, hM, es⟩
    · obtain ⟨lv, M, h, hM, es⟩ := L.2 b4 qr3
      replace h := qa_push (z := (-9 : Int32)) (q := 43) (qa_e rfl h) rfl (by decide)
      have er := qa_ri (qa_e rfl h)
      subst er
      have e0 : ma_133_3 N a1 σ = ((-9 : Int32), σ) := by exact Eq.trans (if_neg c1) (Eq.trans (qa_ie er3) (Eq.trans (qa_csr qr3 _ _) (rfl)))
      rw [e0]
      exact ⟨rfl, hM, es⟩
