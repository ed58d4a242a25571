noncomputable def mc_233_99_p23 (N : Nat) (l1 : Int32) (l2 : Int32) (s : Int32 × qa_S) : (Int32 × qa_S) ⊕ (Int32 × qa_S) :=
  if s.1 < (4 : Int32) then
    qa_in (qa_u s.2 111 s.1.toNatClampNeg (s.2 108 (((4 : Int32) * l2) + s.1).toNatClampNeg)) fun m2 =>
    .inl ((s.1 + (1 : Int32)), m2)
  else
    .inr (s.1, s.2)
theorem md_233_99_p23 {N F : Nat} {r : Option Value × q4_M} {l1 : Int32} {l2 : Int32} (hN : F ≤ N) : ∀ f n, f ≤ n → f ≤ F → ∀ (s : Int32 × qa_S) (lv : List (Nat × Value)) (M : q4_M), qa_O M → qa_s M = s.2 → q4_get lv 0 = some (.ref 99) → q4_get lv 1 = some (.int (l1)) → q4_get lv 2 = some (.int (l2)) → q4_get lv 3 = some (.int (s.1)) → q4_run f 233 23 lv [] M 0 0 = some r → ∃ lv M, q4_run F 233 50 lv [] M 0 0 = some r ∧ qa_O M ∧ qa_s M = (qa_wh (fun s => s) (mc_233_99_p23 N l1 l2) n s).2 ∧ q4_get lv 0 = some (.ref 99) ∧ q4_get lv 1 = some (.int (l1)) ∧ q4_get lv 2 = some (.int (l2)) := by
  intro f
  induction f with
  | zero => intro n _ _ s lv M hM es _ _ _ _ h; cases h
  | succ f ih =>
    intro n hn hF s lv M hM es g0 g1 g2 g3 h
    obtain ⟨n, rfl⟩ : ∃ n1, n = n1 + 1 := ⟨n - 1, by omega⟩
    replace hn : f ≤ n := Nat.le_of_succ_le_succ hn
    have hN := Nat.le_trans (Nat.le_of_succ_le hF) hN
    replace h := qa_iload (n := 3) (q := 24) (qa_d rfl h) rfl g3
    replace h := qa_push (z := (4 : Int32)) (q := 25) (qa_e rfl h) rfl (by decide)
    by_cases c1 : s.1 < (4 : Int32)
    · replace h := qa_iff (q := 28) (qa_e rfl h) rfl (qa_F_ge c1)
      replace h := qa_aload (n := 0) (q := 29) (qa_e rfl h) rfl g0
      replace h := qa_gr (b := 111) (j := 14) (q := 32) (qa_e rfl h) rfl hM rfl (by decide)
      replace h := qa_iload (n := 3) (q := 33) (qa_e rfl h) rfl g3
      replace h := qa_aload (n := 0) (q := 34) (qa_e rfl h) rfl g0
      replace h := qa_gr (b := 108) (j := 11) (q := 37) (qa_e rfl h) rfl hM rfl (by decide)
      replace h := qa_push (z := (4 : Int32)) (q := 38) (qa_e rfl h) rfl (by decide)
      replace h := qa_iload (n := 2) (q := 39) (qa_e rfl h) rfl g2
      replace h := qa_imul (q := 40) (qa_e rfl h) rfl
      replace h := qa_iload (n := 3) (q := 41) (qa_e rfl h) rfl g3
      replace h := qa_iadd (q := 42) (qa_e rfl h) rfl
      replace h := qa_iaload (jn := (((4 : Int32) * l2) + s.1).toNatClampNeg) (q := 43) (qa_e rfl h) rfl hM es rfl
      obtain ⟨m2, em2⟩ : ∃ x, x = qa_u s.2 111 s.1.toNatClampNeg (s.2 108 (((4 : Int32) * l2) + s.1).toNatClampNeg) := ⟨_, rfl⟩
      obtain ⟨M, h, hM, es⟩ := qa_iastore (jn := s.1.toNatClampNeg) (q := 44) (qa_e rfl h) rfl hM es rfl
      rw [← em2] at es
      obtain ⟨lv, h, g, T⟩ := qa_iinc (n := 3) (z := (1 : Int32)) (q := 47) (qa_e rfl h) rfl (by decide) g3
      replace g0 := T _ _ g0 (by decide) (Or.inr rfl)
      replace g1 := T _ _ g1 (by decide) (Or.inr rfl)
      replace g2 := T _ _ g2 (by decide) (Or.inr rfl)
      replace g3 := g
      clear g T
      replace h := qa_goto (q := 23) (qa_e rfl h) rfl
      have e0 : mc_233_99_p23 N l1 l2 s = .inl ((s.1 + (1 : Int32)), m2) := by exact Eq.trans (if_pos c1) (Eq.trans (qa_ie em2) (rfl))
      rw [qa_whl e0]
      exact ih n hn (Nat.le_of_succ_le hF) ((s.1 + (1 : Int32)), m2) _ _ hM es g0 g1 g2 g3 h
    · replace h := qa_ift (q := 50) (qa_e rfl h) rfl (qa_T_ge c1)
      have e0 : mc_233_99_p23 N l1 l2 s = .inr (s.1, s.2) := by exact Eq.trans (if_neg c1) (rfl)
      rw [qa_whr e0]
      exact ⟨_, _, q61_mono f F _ _ _ _ _ _ _ _ (Nat.le_of_succ_le hF) h, hM, es, g0, g1, g2⟩
noncomputable def mc_233_99_p13 (N : Nat) (s : Int32 × Int32 × qa_S) : (Int32 × Int32 × qa_S) ⊕ (Int32 × Int32 × qa_S) :=
  if s.1 < (s.2.2 99 0) then
    qa_in ((qa_wh (fun s => s) (mc_233_99_p23 N s.2.1 s.1) N ((0 : Int32), s.2.2))) fun r2 =>
    qa_in ((ma_197_99 N r2.2)) fun r3 =>
    .inl ((s.1 + (1 : Int32)), (s.2.1 ||| (if r3 = (ma_190_99 r2.2) then ((1 : Int32) <<< (s.1 &&& 31)) else (0 : Int32))), r2.2)
  else
    .inr (s.1, s.2.1, s.2.2)
theorem md_233_99_p13 {N F : Nat} {r : Option Value × q4_M} (hN : F ≤ N) : ∀ f n, f ≤ n → f ≤ F → ∀ (s : Int32 × Int32 × qa_S) (lv : List (Nat × Value)) (M : q4_M), qa_O M → qa_s M = s.2.2 → q4_get lv 0 = some (.ref 99) → q4_get lv 1 = some (.int (s.2.1)) → q4_get lv 2 = some (.int (s.1)) → q4_run f 233 13 lv [] M 0 0 = some r → ∃ lv M, q4_run F 233 77 lv [] M 0 0 = some r ∧ qa_O M ∧ qa_s M = (qa_wh (fun s => s) (mc_233_99_p13 N) n s).2.2 ∧ q4_get lv 1 = some (.int ((qa_wh (fun s => s) (mc_233_99_p13 N) n s).2.1)) := by
  intro f
  induction f with
  | zero => intro n _ _ s lv M hM es _ _ _ h; cases h
  | succ f ih =>
    intro n hn hF s lv M hM es g0 g1 g2 h
    obtain ⟨n, rfl⟩ : ∃ n1, n = n1 + 1 := ⟨n - 1, by omega⟩
    replace hn : f ≤ n := Nat.le_of_succ_le_succ hn
    have hN := Nat.le_trans (Nat.le_of_succ_le hF) hN
    replace h := qa_iload (n := 2) (q := 14) (qa_d rfl h) rfl g2
    replace h := qa_aload (n := 0) (q := 15) (qa_e rfl h) rfl g0
    replace h := qa_gi (j := 0) (q := 18) (qa_e rfl h) rfl hM es rfl (by decide)
    by_cases c1 : s.1 < (s.2.2 99 0)
    · replace h := qa_iff (q := 21) (qa_e rfl h) rfl (qa_F_ge c1)
      replace h := qa_push (z := (0 : Int32)) (q := 22) (qa_e rfl h) rfl (by decide)
      obtain ⟨lv, h, g, T⟩ := qa_istore (n := 3) (q := 23) (qa_e rfl h) rfl
      replace g0 := T _ _ g0 (by decide) (Or.inr rfl)
      replace g1 := T _ _ g1 (by decide) (Or.inr rfl)
      replace g2 := T _ _ g2 (by decide) (Or.inr rfl)
      have g3 := g
      clear g T
      obtain ⟨r2, er2⟩ : ∃ x, x = (qa_wh (fun s => s) (mc_233_99_p23 N s.2.1 s.1) N ((0 : Int32), s.2.2)) := ⟨_, rfl⟩
      have L := md_233_99_p23 (l1 := s.2.1) (l2 := s.1) (F := f) (N := N) (r := r) hN f N hN (Nat.le_refl f) ((0 : Int32), s.2.2) _ _ hM es g0 g1 g2 g3 h
      rw [← er2] at L
      obtain ⟨lv, M, h, hM, es, g0, g1, g2⟩ := L
      replace h := qa_iload (n := 1) (q := 51) (qa_e rfl h) rfl g1
      replace h := qa_aload (n := 0) (q := 52) (qa_e rfl h) rfl g0
      obtain ⟨r3, er3⟩ : ∃ x, x = (ma_197_99 N r2.2) := ⟨_, rfl⟩
      obtain ⟨M, h, hM, es⟩ := qa_c1 (y := 197) (as := [.ref 99]) (rest := [.int (s.2.1)]) (i := .invokevirtual 197) (q := 55) (qa_e rfl h) (Or.inl rfl) rfl rfl (by decide) rfl (fun r hc => mb_197_99 hN hM es hc)
      rw [← er3] at h
      replace h := qa_aload (n := 0) (q := 56) (qa_e rfl h) rfl g0
      obtain ⟨M, h, hM, es⟩ := qa_c1 (y := 190) (as := [.ref 99]) (rest := [.int (r3), .int (s.2.1)]) (i := .invokevirtual 190) (q := 59) (qa_e rfl h) (Or.inl rfl) rfl rfl (by decide) rfl (fun r hc => mb_190_99 hM es hc)
      obtain ⟨lv, M, h, hM, es, g0, g2⟩ : ∃ lv M, q4_run f 233 69 lv [.int ((if r3 = (ma_190_99 r2.2) then ((1 : Int32) <<< (s.1 &&& 31)) else (0 : Int32))), .int (s.2.1)] M 0 0 = some r ∧ qa_O M ∧ qa_s M = r2.2 ∧ q4_get lv 0 = some (.ref 99) ∧ q4_get lv 2 = some (.int (s.1)) := by
        by_cases c4 : r3 = (ma_190_99 r2.2)
        · replace h := qa_iff (q := 62) (qa_e rfl h) rfl (qa_F_ne c4)
          replace h := qa_push (z := (1 : Int32)) (q := 63) (qa_e rfl h) rfl (by decide)
          replace h := qa_iload (n := 2) (q := 64) (qa_e rfl h) rfl g2
          replace h := qa_ishl (q := 65) (qa_e rfl h) rfl
          replace h := qa_goto (q := 69) (qa_e rfl h) rfl
          exact ⟨lv, M, (qa_hi1 c4 h), hM, es, g0, g2⟩
        · replace h := qa_ift (q := 68) (qa_e rfl h) rfl (qa_T_ne c4)
          replace h := qa_push (z := (0 : Int32)) (q := 69) (qa_e rfl h) rfl (by decide)
          exact ⟨lv, M, (qa_hi0 c4 h), hM, es, g0, g2⟩
      replace h := qa_ior (q := 70) (qa_e rfl h) rfl
      obtain ⟨lv, h, g, T⟩ := qa_istore (n := 1) (q := 71) (qa_e rfl h) rfl
      replace g0 := T _ _ g0 (by decide) (Or.inr rfl)
      replace g2 := T _ _ g2 (by decide) (Or.inr rfl)
      have g1 := g
      clear g T
      obtain ⟨lv, h, g, T⟩ := qa_iinc (n := 2) (z := (1 : Int32)) (q := 74) (qa_e rfl h) rfl (by decide) g2
      replace g0 := T _ _ g0 (by decide) (Or.inr rfl)
      replace g1 := T _ _ g1 (by decide) (Or.inr rfl)
      replace g2 := g
      clear g T
      replace h := qa_goto (q := 13) (qa_e rfl h) rfl
      have e0 : mc_233_99_p13 N s = .inl ((s.1 + (1 : Int32)), (s.2.1 ||| (if r3 = (ma_190_99 r2.2) then ((1 : Int32) <<< (s.1 &&& 31)) else (0 : Int32))), r2.2) := by exact Eq.trans (if_pos c1) (Eq.trans (qa_ie er2) (Eq.trans (qa_ie er3) (rfl)))
      rw [qa_whl e0]
      exact ih n hn (Nat.le_of_succ_le hF) ((s.1 + (1 : Int32)), (s.2.1 ||| (if r3 = (ma_190_99 r2.2) then ((1 : Int32) <<< (s.1 &&& 31)) else (0 : Int32))), r2.2) _ _ hM es g0 g1 g2 h
    · replace h := qa_ift (q := 77) (qa_e rfl h) rfl (qa_T_ge c1)
      have e0 : mc_233_99_p13 N s = .inr (s.1, s.2.1, s.2.2) := by exact Eq.trans (if_neg c1) (rfl)
      rw [qa_whr e0]
      exact ⟨_, _, q61_mono f F _ _ _ _ _ _ _ _ (Nat.le_of_succ_le hF) h, hM, es, g1⟩
/-- BuriedBySevensModel, like, ()I -/
noncomputable def ma_233_99 (N : Nat) (σ : qa_S) : Int32 × qa_S :=
  qa_in (qa_u σ 99 9 (0 : Int32)) fun m1 =>
  qa_in ((ma_180_99 N m1)) fun m2 =>
  qa_in ((qa_wh (fun s => s) (mc_233_99_p13 N) N ((0 : Int32), (0 : Int32), m2))) fun r3 =>
  (r3.2.1, r3.2.2)
theorem mb_233_99 {f N : Nat} (hN : f ≤ N) {M : q4_M} {r : Option Value × q4_M} {σ : qa_S} (hM : qa_O M) (es : qa_s M = σ) (h : q4_run f 233 0 (lv_args 0 [.ref 99]) [] M 0 0 = some r) : r.1 = some (.int ((ma_233_99 N σ).1)) ∧ qa_O r.2 ∧ qa_s r.2 = (ma_233_99 N σ).2 := by
  obtain ⟨lv, el⟩ : ∃ l, l = lv_args 0 [.ref 99] := ⟨_, rfl⟩
  have g0 : q4_get lv 0 = some (.ref 99) := by rw [el]; rfl
  rw [← el] at h
  clear el
  replace h := qa_aload (n := 0) (q := 1) (qa_e rfl h) rfl g0
  replace h := qa_push (z := (0 : Int32)) (q := 2) (qa_e rfl h) rfl (by decide)
  obtain ⟨m1, em1⟩ : ∃ x, x = qa_u σ 99 9 (0 : Int32) := ⟨_, rfl⟩
  obtain ⟨M, h, hM, es⟩ := qa_pf (j := 9) (q := 5) (qa_e rfl h) rfl hM es rfl (by decide)
  rw [← em1] at es
  replace h := qa_aload (n := 0) (q := 6) (qa_e rfl h) rfl g0
  obtain ⟨m2, em2⟩ : ∃ x, x = (ma_180_99 N m1) := ⟨_, rfl⟩
  obtain ⟨M, h, hM, es⟩ := qa_c0 (y := 180) (as := [.ref 99]) (rest := []) (i := .invokevirtual 180) (q := 9) (qa_e rfl h) (Or.inl rfl) rfl rfl (by decide) rfl (fun r hc => mb_180_99 hN hM es hc)
  rw [← em2] at es
  replace h := qa_push (z := (0 : Int32)) (q := 10) (qa_e rfl h) rfl (by decide)
  obtain ⟨lv, h, g, T⟩ := qa_istore (n := 1) (q := 11) (qa_e rfl h) rfl
  replace g0 := T _ _ g0 (by decide) (Or.inr rfl)
  have g1 := g
  clear g T
  replace h := qa_push (z := (0 : Int32)) (q := 12) (qa_e rfl h) rfl (by decide)
  obtain ⟨lv, h, g, T⟩ := qa_istore (n := 2) (q := 13) (qa_e rfl h) rfl
  replace g0 := T _ _ g0 (by decide) (Or.inr rfl)
  replace g1 := T _ _ g1 (by decide) (Or.inr rfl)
  have g2 := g
  clear g T
  obtain ⟨r3, er3⟩ : ∃ x, x = (qa_wh (fun s => s) (mc_233_99_p13 N) N ((0 : Int32), (0 : Int32), m2)) := ⟨_, rfl⟩
  have L := md_233_99_p13 (F := f) (N := N) (r := r) hN f N hN (Nat.le_refl f) ((0 : Int32), (0 : Int32), m2) _ _ hM es g0 g1 g2 h
  rw [← er3] at L
  obtain ⟨lv, M, h, hM, es, g1⟩ := L
  replace h := qa_iload (n := 1) (q := 78) (qa_e rfl h) rfl g1
  have er := qa_ri (qa_e rfl h)
  subst er
  have e0 : ma_233_99 N σ = (r3.2.1, r3.2.2) := by exact Eq.trans (qa_ie em1) (Eq.trans (qa_ie em2) (Eq.trans (qa_ie er3) (rfl)))
  rw [e0]
  exact ⟨rfl, hM, es⟩
noncomputable def mc_234_99_p50 (N : Nat) (l1 : Int32) (l4 : Int32) (σ : qa_S) (s : Int32 × Int32 × Int32) : (Int32 × Int32 × Int32) ⊕ (Int32 × Int32 × Int32) :=
  if s.1 < (σ 99 5) then
    qa_in ((ma_199_99 N (((1 : Int32) <<< (l4 &&& 31)) ||| ((1 : Int32) <<< (s.1 &&& 31))) σ)) fun r2 =>
    .inl ((s.1 + (1 : Int32)), (if (if s.2.1 < (0 : Int32) then (1 : Int32) else (if r2 < s.2.2 then (1 : Int32) else (0 : Int32))) = (0 : Int32) then s.2.1 else (((10 : Int32) * l4) + s.1)), (if (if s.2.1 < (0 : Int32) then (1 : Int32) else (if r2 < s.2.2 then (1 : Int32) else (0 : Int32))) = (0 : Int32) then s.2.2 else r2))
  else
    .inr (s.1, s.2.1, s.2.2)
theorem md_234_99_p50 {N F : Nat} {r : Option Value × q4_M} {l1 : Int32} {l4 : Int32} {σ : qa_S} (hN : F ≤ N) : ∀ f n, f ≤ n → f ≤ F → ∀ (s : Int32 × Int32 × Int32) (lv : List (Nat × Value)) (M : q4_M), qa_O M → qa_s M = σ → q4_get lv 0 = some (.ref 99) → q4_get lv 1 = some (.int (l1)) → q4_get lv 2 = some (.int (s.2.1)) → q4_get lv 3 = some (.int (s.2.2)) → q4_get lv 4 = some (.int (l4)) → q4_get lv 5 = some (.int (s.1)) → q4_run f 234 50 lv [] M 0 0 = some r → ∃ lv M, q4_run F 234 127 lv [] M 0 0 = some r ∧ qa_O M ∧ qa_s M = σ ∧ q4_get lv 0 = some (.ref 99) ∧ q4_get lv 1 = some (.int (l1)) ∧ q4_get lv 2 = some (.int ((qa_wh (fun s => s) (mc_234_99_p50 N l1 l4 σ) n s).2.1)) ∧ q4_get lv 3 = some (.int ((qa_wh (fun s => s) (mc_234_99_p50 N l1 l4 σ) n s).2.2)) ∧ q4_get lv 4 = some (.int (l4)) := by
  intro f
  induction f with
  | zero => intro n _ _ s lv M hM es _ _ _ _ _ _ h; cases h
  | succ f ih =>
    intro n hn hF s lv M hM es g0 g1 g2 g3 g4 g5 h
    obtain ⟨n, rfl⟩ : ∃ n1, n = n1 + 1 := ⟨n - 1, by omega⟩
    replace hn : f ≤ n := Nat.le_of_succ_le_succ hn
    have hN := Nat.le_trans (Nat.le_of_succ_le hF) hN
    replace h := qa_iload (n := 5) (q := 52) (qa_d rfl h) rfl g5
    replace h := qa_aload (n := 0) (q := 53) (qa_e rfl h) rfl g0
    replace h := qa_gi (j := 5) (q := 56) (qa_e rfl h) rfl hM es rfl (by decide)
    by_cases c1 : s.1 < (σ 99 5)
    · replace h := qa_iff (q := 59) (qa_e rfl h) rfl (qa_F_ge c1)
      replace h := qa_aload (n := 0) (q := 60) (qa_e rfl h) rfl g0
      replace h := qa_push (z := (1 : Int32)) (q := 61) (qa_e rfl h) rfl (by decide)
      replace h := qa_iload (n := 4) (q := 63) (qa_e rfl h) rfl g4
      replace h := qa_ishl (q := 64) (qa_e rfl h) rfl
      replace h := qa_push (z := (1 : Int32)) (q := 65) (qa_e rfl h) rfl (by decide)
      replace h := qa_iload (n := 5) (q := 67) (qa_e rfl h) rfl g5
      replace h := qa_ishl (q := 68) (qa_e rfl h) rfl
      replace h := qa_ior (q := 69) (qa_e rfl h) rfl
      obtain ⟨r2, er2⟩ : ∃ x, x = (ma_199_99 N (((1 : Int32) <<< (l4 &&& 31)) ||| ((1 : Int32) <<< (s.1 &&& 31))) σ) := ⟨_, rfl⟩
      obtain ⟨M, h, hM, es⟩ := qa_c1 (y := 199) (as := [.ref 99, .int ((((1 : Int32) <<< (l4 &&& 31)) ||| ((1 : Int32) <<< (s.1 &&& 31))))]) (rest := []) (i := .invokevirtual 199) (q := 72) (qa_e rfl h) (Or.inl rfl) rfl rfl (by decide) rfl (fun r hc => mb_199_99 hN hM es hc)
      rw [← er2] at h
      obtain ⟨lv, h, g, T⟩ := qa_istore (n := 6) (q := 74) (qa_e rfl h) rfl
      replace g0 := T _ _ g0 (by decide) (Or.inr rfl)
      replace g1 := T _ _ g1 (by decide) (Or.inr rfl)
      replace g2 := T _ _ g2 (by decide) (Or.inr rfl)
      replace g3 := T _ _ g3 (by decide) (Or.inr rfl)
      replace g4 := T _ _ g4 (by decide) (Or.inr rfl)
      replace g5 := T _ _ g5 (by decide) (Or.inr rfl)
      have g6 := g
      clear g T
      replace h := qa_iload (n := 2) (q := 75) (qa_e rfl h) rfl g2
      obtain ⟨lv, M, h, hM, es, g0, g1, g2, g3, g4, g5, g6⟩ : ∃ lv M, q4_run f 234 89 lv [.int ((if s.2.1 < (0 : Int32) then (1 : Int32) else (if r2 < s.2.2 then (1 : Int32) else (0 : Int32))))] M 0 0 = some r ∧ qa_O M ∧ qa_s M = σ ∧ q4_get lv 0 = some (.ref 99) ∧ q4_get lv 1 = some (.int (l1)) ∧ q4_get lv 2 = some (.int (s.2.1)) ∧ q4_get lv 3 = some (.int (s.2.2)) ∧ q4_get lv 4 = some (.int (l4)) ∧ q4_get lv 5 = some (.int (s.1)) ∧ q4_get lv 6 = some (.int (r2)) := by
        by_cases c3 : s.2.1 < (0 : Int32)
        · replace h := qa_ict (q := 84) (qa_e rfl h) rfl (qa_T_lt c3)
          replace h := qa_push (z := (1 : Int32)) (q := 85) (qa_e rfl h) rfl (by decide)
          replace h := qa_goto (q := 89) (qa_e rfl h) rfl
          exact ⟨lv, M, (qa_hi1 c3 h), hM, es, g0, g1, g2, g3, g4, g5, g6⟩
        · replace h := qa_icf (q := 78) (qa_e rfl h) rfl (qa_F_lt c3)
          replace h := qa_iload (n := 6) (q := 80) (qa_e rfl h) rfl g6
          replace h := qa_iload (n := 3) (q := 81) (qa_e rfl h) rfl g3
          obtain ⟨lv, M, h, hM, es, g0, g1, g2, g3, g4, g5, g6⟩ : ∃ lv M, q4_run f 234 89 lv [.int ((if r2 < s.2.2 then (1 : Int32) else (0 : Int32)))] M 0 0 = some r ∧ qa_O M ∧ qa_s M = σ ∧ q4_get lv 0 = some (.ref 99) ∧ q4_get lv 1 = some (.int (l1)) ∧ q4_get lv 2 = some (.int (s.2.1)) ∧ q4_get lv 3 = some (.int (s.2.2)) ∧ q4_get lv 4 = some (.int (l4)) ∧ q4_get lv 5 = some (.int (s.1)) ∧ q4_get lv 6 = some (.int (r2)) := by
            by_cases c4 : r2 < s.2.2
            · replace h := qa_iff (q := 84) (qa_e rfl h) rfl (qa_F_ge c4)
              replace h := qa_push (z := (1 : Int32)) (q := 85) (qa_e rfl h) rfl (by decide)
              replace h := qa_goto (q := 89) (qa_e rfl h) rfl
              exact ⟨lv, M, (qa_hi1 c4 h), hM, es, g0, g1, g2, g3, g4, g5, g6⟩
            · replace h := qa_ift (q := 88) (qa_e rfl h) rfl (qa_T_ge c4)
              replace h := qa_push (z := (0 : Int32)) (q := 89) (qa_e rfl h) rfl (by decide)
              exact ⟨lv, M, (qa_hi0 c4 h), hM, es, g0, g1, g2, g3, g4, g5, g6⟩
          exact ⟨lv, M, (qa_hi0 c3 h), hM, es, g0, g1, g2, g3, g4, g5, g6⟩
      obtain ⟨lv, h, g, T⟩ := qa_istore (n := 7) (q := 91) (qa_e rfl h) rfl
      replace g0 := T _ _ g0 (by decide) (Or.inr rfl)
      replace g1 := T _ _ g1 (by decide) (Or.inr rfl)
      replace g2 := T _ _ g2 (by decide) (Or.inr rfl)
      replace g3 := T _ _ g3 (by decide) (Or.inr rfl)
      replace g4 := T _ _ g4 (by decide) (Or.inr rfl)
      replace g5 := T _ _ g5 (by decide) (Or.inr rfl)
      replace g6 := T _ _ g6 (by decide) (Or.inr rfl)
      have g7 := g
      clear g T
      replace h := qa_iload (n := 7) (q := 93) (qa_e rfl h) rfl g7
      obtain ⟨lv, M, h, hM, es, g0, g1, g3, g4, g5, g6, g7⟩ : ∃ lv M, q4_run f 234 108 lv [.int ((if (if s.2.1 < (0 : Int32) then (1 : Int32) else (if r2 < s.2.2 then (1 : Int32) else (0 : Int32))) = (0 : Int32) then s.2.1 else (((10 : Int32) * l4) + s.1)))] M 0 0 = some r ∧ qa_O M ∧ qa_s M = σ ∧ q4_get lv 0 = some (.ref 99) ∧ q4_get lv 1 = some (.int (l1)) ∧ q4_get lv 3 = some (.int (s.2.2)) ∧ q4_get lv 4 = some (.int (l4)) ∧ q4_get lv 5 = some (.int (s.1)) ∧ q4_get lv 6 = some (.int (r2)) ∧ q4_get lv 7 = some (.int ((if s.2.1 < (0 : Int32) then (1 : Int32) else (if r2 < s.2.2 then (1 : Int32) else (0 : Int32))))) := by
        by_cases c5 : (if s.2.1 < (0 : Int32) then (1 : Int32) else (if r2 < s.2.2 then (1 : Int32) else (0 : Int32))) = (0 : Int32)
        · replace h := qa_ict (q := 107) (qa_e rfl h) rfl (qa_T_eq c5)
          replace h := qa_iload (n := 2) (q := 108) (qa_e rfl h) rfl g2
          exact ⟨lv, M, (qa_hi1 c5 h), hM, es, g0, g1, g3, g4, g5, g6, g7⟩
        · replace h := qa_icf (q := 96) (qa_e rfl h) rfl (qa_F_eq c5)
          replace h := qa_push (z := (10 : Int32)) (q := 98) (qa_e rfl h) rfl (by decide)
          replace h := qa_iload (n := 4) (q := 100) (qa_e rfl h) rfl g4
          replace h := qa_imul (q := 101) (qa_e rfl h) rfl
          replace h := qa_iload (n := 5) (q := 103) (qa_e rfl h) rfl g5
          replace h := qa_iadd (q := 104) (qa_e rfl h) rfl
          replace h := qa_goto (q := 108) (qa_e rfl h) rfl
          exact ⟨lv, M, (qa_hi0 c5 h), hM, es, g0, g1, g3, g4, g5, g6, g7⟩
      obtain ⟨lv, h, g, T⟩ := qa_istore (n := 2) (q := 109) (qa_e rfl h) rfl
      replace g0 := T _ _ g0 (by decide) (Or.inr rfl)
      replace g1 := T _ _ g1 (by decide) (Or.inr rfl)
      replace g3 := T _ _ g3 (by decide) (Or.inr rfl)
      replace g4 := T _ _ g4 (by decide) (Or.inr rfl)
      replace g5 := T _ _ g5 (by decide) (Or.inr rfl)
      replace g6 := T _ _ g6 (by decide) (Or.inr rfl)
      replace g7 := T _ _ g7 (by decide) (Or.inr rfl)
      have g2 := g
      clear g T
      replace h := qa_iload (n := 7) (q := 111) (qa_e rfl h) rfl g7
      obtain ⟨lv, M, h, hM, es, g0, g1, g2, g4, g5⟩ : ∃ lv M, q4_run f 234 120 lv [.int ((if (if s.2.1 < (0 : Int32) then (1 : Int32) else (if r2 < s.2.2 then (1 : Int32) else (0 : Int32))) = (0 : Int32) then s.2.2 else r2))] M 0 0 = some r ∧ qa_O M ∧ qa_s M = σ ∧ q4_get lv 0 = some (.ref 99) ∧ q4_get lv 1 = some (.int (l1)) ∧ q4_get lv 2 = some (.int ((if (if s.2.1 < (0 : Int32) then (1 : Int32) else (if r2 < s.2.2 then (1 : Int32) else (0 : Int32))) = (0 : Int32) then s.2.1 else (((10 : Int32) * l4) + s.1)))) ∧ q4_get lv 4 = some (.int (l4)) ∧ q4_get lv 5 = some (.int (s.1)) := by
        by_cases c6 : (if s.2.1 < (0 : Int32) then (1 : Int32) else (if r2 < s.2.2 then (1 : Int32) else (0 : Int32))) = (0 : Int32)
        · replace h := qa_ict (q := 119) (qa_e rfl h) rfl (qa_T_eq c6)
          replace h := qa_iload (n := 3) (q := 120) (qa_e rfl h) rfl g3
          exact ⟨lv, M, (qa_hi1 c6 h), hM, es, g0, g1, g2, g4, g5⟩
        · replace h := qa_icf (q := 114) (qa_e rfl h) rfl (qa_F_eq c6)
          replace h := qa_iload (n := 6) (q := 116) (qa_e rfl h) rfl g6
          replace h := qa_goto (q := 120) (qa_e rfl h) rfl
          exact ⟨lv, M, (qa_hi0 c6 h), hM, es, g0, g1, g2, g4, g5⟩
      obtain ⟨lv, h, g, T⟩ := qa_istore (n := 3) (q := 121) (qa_e rfl h) rfl
      replace g0 := T _ _ g0 (by decide) (Or.inr rfl)
      replace g1 := T _ _ g1 (by decide) (Or.inr rfl)
      replace g2 := T _ _ g2 (by decide) (Or.inr rfl)
      replace g4 := T _ _ g4 (by decide) (Or.inr rfl)
      replace g5 := T _ _ g5 (by decide) (Or.inr rfl)
      have g3 := g
      clear g T
      obtain ⟨lv, h, g, T⟩ := qa_iinc (n := 5) (z := (1 : Int32)) (q := 124) (qa_e rfl h) rfl (by decide) g5
      replace g0 := T _ _ g0 (by decide) (Or.inr rfl)
      replace g1 := T _ _ g1 (by decide) (Or.inr rfl)
      replace g2 := T _ _ g2 (by decide) (Or.inr rfl)
      replace g3 := T _ _ g3 (by decide) (Or.inr rfl)
      replace g4 := T _ _ g4 (by decide) (Or.inr rfl)
      replace g5 := g
      clear g T
      replace h := qa_goto (q := 50) (qa_e rfl h) rfl
      have e0 : mc_234_99_p50 N l1 l4 σ s = .inl ((s.1 + (1 : Int32)), (if (if s.2.1 < (0 : Int32) then (1 : Int32) else (if r2 < s.2.2 then (1 : Int32) else (0 : Int32))) = (0 : Int32) then s.2.1 else (((10 : Int32) * l4) + s.1)), (if (if s.2.1 < (0 : Int32) then (1 : Int32) else (if r2 < s.2.2 then (1 : Int32) else (0 : Int32))) = (0 : Int32) then s.2.2 else r2)) := by exact Eq.trans (if_pos c1) (Eq.trans (qa_ie er2) (rfl))
      rw [qa_whl e0]
      exact ih n hn (Nat.le_of_succ_le hF) ((s.1 + (1 : Int32)), (if (if s.2.1 < (0 : Int32) then (1 : Int32) else (if r2 < s.2.2 then (1 : Int32) else (0 : Int32))) = (0 : Int32) then s.2.1 else (((10 : Int32) * l4) + s.1)), (if (if s.2.1 < (0 : Int32) then (1 : Int32) else (if r2 < s.2.2 then (1 : Int32) else (0 : Int32))) = (0 : Int32) then s.2.2 else r2)) _ _ hM es g0 g1 g2 g3 g4 g5 h
    · replace h := qa_ift (q := 127) (qa_e rfl h) rfl (qa_T_ge c1)
      have e0 : mc_234_99_p50 N l1 l4 σ s = .inr (s.1, s.2.1, s.2.2) := by exact Eq.trans (if_neg c1) (rfl)
      rw [qa_whr e0]
      exact ⟨_, _, q61_mono f F _ _ _ _ _ _ _ _ (Nat.le_of_succ_le hF) h, hM, es, g0, g1, g2, g3, g4⟩
noncomputable def mc_234_99_p35 (N : Nat) (l1 : Int32) (σ : qa_S) (s : Int32 × Int32 × Int32) : (Int32 × Int32 × Int32) ⊕ (Int32 × Int32 × Int32) :=
  if s.1 < (σ 99 5) then
    qa_in ((qa_wh (fun s => s) (mc_234_99_p50 N l1 s.1 σ) N ((s.1 + (1 : Int32)), s.2.1, s.2.2))) fun r2 =>
    .inl ((s.1 + (1 : Int32)), r2.2.1, r2.2.2)
  else
    .inr (s.1, s.2.1, s.2.2)
theorem md_234_99_p35 {N F : Nat} {r : Option Value × q4_M} {l1 : Int32} {σ : qa_S} (hN : F ≤ N) : ∀ f n, f ≤ n → f ≤ F → ∀ (s : Int32 × Int32 × Int32) (lv : List (Nat × Value)) (M : q4_M), qa_O M → qa_s M = σ → q4_get lv 0 = some (.ref 99) → q4_get lv 1 = some (.int (l1)) → q4_get lv 2 = some (.int (s.2.1)) → q4_get lv 3 = some (.int (s.2.2)) → q4_get lv 4 = some (.int (s.1)) → q4_run f 234 35 lv [] M 0 0 = some r → ∃ lv M, q4_run F 234 133 lv [] M 0 0 = some r ∧ qa_O M ∧ qa_s M = σ ∧ q4_get lv 1 = some (.int (l1)) ∧ q4_get lv 2 = some (.int ((qa_wh (fun s => s) (mc_234_99_p35 N l1 σ) n s).2.1)) ∧ q4_get lv 3 = some (.int ((qa_wh (fun s => s) (mc_234_99_p35 N l1 σ) n s).2.2)) := by
  intro f
  induction f with
  | zero => intro n _ _ s lv M hM es _ _ _ _ _ h; cases h
  | succ f ih =>
    intro n hn hF s lv M hM es g0 g1 g2 g3 g4 h
    obtain ⟨n, rfl⟩ : ∃ n1, n = n1 + 1 := ⟨n - 1, by omega⟩
    replace hn : f ≤ n := Nat.le_of_succ_le_succ hn
    have hN := Nat.le_trans (Nat.le_of_succ_le hF) hN
    replace h := qa_iload (n := 4) (q := 37) (qa_d rfl h) rfl g4
    replace h := qa_aload (n := 0) (q := 38) (qa_e rfl h) rfl g0
    replace h := qa_gi (j := 5) (q := 41) (qa_e rfl h) rfl hM es rfl (by decide)
    by_cases c1 : s.1 < (σ 99 5)
    · replace h := qa_iff (q := 44) (qa_e rfl h) rfl (qa_F_ge c1)
      replace h := qa_iload (n := 4) (q := 46) (qa_e rfl h) rfl g4
      replace h := qa_push (z := (1 : Int32)) (q := 47) (qa_e rfl h) rfl (by decide)
      replace h := qa_iadd (q := 48) (qa_e rfl h) rfl
      obtain ⟨lv, h, g, T⟩ := qa_istore (n := 5) (q := 50) (qa_e rfl h) rfl
      replace g0 := T _ _ g0 (by decide) (Or.inr rfl)
      replace g1 := T _ _ g1 (by decide) (Or.inr rfl)
      replace g2 := T _ _ g2 (by decide) (Or.inr rfl)
      replace g3 := T _ _ g3 (by decide) (Or.inr rfl)
      replace g4 := T _ _ g4 (by decide) (Or.inr rfl)
      have g5 := g
      clear g T
      obtain ⟨r2, er2⟩ : ∃ x, x = (qa_wh (fun s => s) (mc_234_99_p50 N l1 s.1 σ) N ((s.1 + (1 : Int32)), s.2.1, s.2.2)) := ⟨_, rfl⟩
      have L := md_234_99_p50 (l1 := l1) (l4 := s.1) (σ := σ) (F := f) (N := N) (r := r) hN f N hN (Nat.le_refl f) ((s.1 + (1 : Int32)), s.2.1, s.2.2) _ _ hM es g0 g1 g2 g3 g4 g5 h
      rw [← er2] at L
      obtain ⟨lv, M, h, hM, es, g0, g1, g2, g3, g4⟩ := L
      obtain ⟨lv, h, g, T⟩ := qa_iinc (n := 4) (z := (1 : Int32)) (q := 130) (qa_e rfl h) rfl (by decide) g4
      replace g0 := T _ _ g0 (by decide) (Or.inr rfl)
      replace g1 := T _ _ g1 (by decide) (Or.inr rfl)
      replace g2 := T _ _ g2 (by decide) (Or.inr rfl)
      replace g3 := T _ _ g3 (by decide) (Or.inr rfl)
      replace g4 := g
      clear g T
      replace h := qa_goto (q := 35) (qa_e rfl h) rfl
      have e0 : mc_234_99_p35 N l1 σ s = .inl ((s.1 + (1 : Int32)), r2.2.1, r2.2.2) := by exact Eq.trans (if_pos c1) (Eq.trans (qa_ie er2) (rfl))
      rw [qa_whl e0]
      exact ih n hn (Nat.le_of_succ_le hF) ((s.1 + (1 : Int32)), r2.2.1, r2.2.2) _ _ hM es g0 g1 g2 g3 g4 h
    · replace h := qa_ift (q := 133) (qa_e rfl h) rfl (qa_T_ge c1)
      have e0 : mc_234_99_p35 N l1 σ s = .inr (s.1, s.2.1, s.2.2) := by exact Eq.trans (if_neg c1) (rfl)
      rw [qa_whr e0]
      exact ⟨_, _, q61_mono f F _ _ _ _ _ _ _ _ (Nat.le_of_succ_le hF) h, hM, es, g1, g2, g3⟩
/-- BuriedBySevensModel, duo, (I)I -/
noncomputable def ma_234_99 (N : Nat) (a1 : Int32) (σ : qa_S) : Int32 × qa_S :=
  qa_in (qa_u σ 99 9 (0 : Int32)) fun m1 =>
  if (ma_158 (a1).toInt64 (0 : Int64) (1 : Int64)) = (0 : Int32) then
    qa_in ((ma_152_99 (-2 : Int32) m1)) fun r3 =>
    (r3.1, r3.2)
  else
    qa_in ((ma_194_99 N m1)) fun m4 =>
    qa_in ((qa_wh (fun s => s) (mc_234_99_p35 N a1 m4) N ((0 : Int32), (-9 : Int32), (-9 : Int32)))) fun r5 =>
    ((if a1 = (0 : Int32) then r5.2.1 else r5.2.2), m4)
theorem mb_234_99 {f N : Nat} (hN : f ≤ N) {M : q4_M} {r : Option Value × q4_M} {σ : qa_S} {a1 : Int32} (hM : qa_O M) (es : qa_s M = σ) (h : q4_run f 234 0 (lv_args 0 [.ref 99, .int (a1)]) [] M 0 0 = some r) : r.1 = some (.int ((ma_234_99 N a1 σ).1)) ∧ qa_O r.2 ∧ qa_s r.2 = (ma_234_99 N a1 σ).2 := by
  obtain ⟨lv, el⟩ : ∃ l, l = lv_args 0 [.ref 99, .int (a1)] := ⟨_, rfl⟩
  have g0 : q4_get lv 0 = some (.ref 99) := by rw [el]; rfl
  have g1 : q4_get lv 1 = some (.int (a1)) := by rw [el]; rfl
  rw [← el] at h
  clear el
  replace h := qa_aload (n := 0) (q := 1) (qa_e rfl h) rfl g0
  replace h := qa_push (z := (0 : Int32)) (q := 2) (qa_e rfl h) rfl (by decide)
  obtain ⟨m1, em1⟩ : ∃ x, x = qa_u σ 99 9 (0 : Int32) := ⟨_, rfl⟩
  obtain ⟨M, h, hM, es⟩ := qa_pf (j := 9) (q := 5) (qa_e rfl h) rfl hM es rfl (by decide)
  rw [← em1] at es
  replace h := qa_iload (n := 1) (q := 6) (qa_e rfl h) rfl g1
  replace h := qa_i2l (q := 7) (qa_e rfl h) rfl
  replace h := qa_lpush (z := (0 : Int64)) (q := 8) (qa_e rfl h) rfl (by decide)
  replace h := qa_lpush (z := (1 : Int64)) (q := 9) (qa_e rfl h) rfl (by decide)
  obtain ⟨M, h, hM, es⟩ := qa_c1 (y := 158) (as := [.long ((a1).toInt64), .long ((0 : Int64)), .long ((1 : Int64))]) (rest := []) (i := .invokestatic 158) (q := 12) (qa_e rfl h) (Or.inr rfl) rfl rfl (by decide) rfl (fun r hc => mb_158 hM es hc)
  by_cases c2 : (ma_158 (a1).toInt64 (0 : Int64) (1 : Int64)) = (0 : Int32)
  · replace h := qa_icf (q := 15) (qa_e rfl h) rfl (qa_F_ne c2)
    replace h := qa_aload (n := 0) (q := 16) (qa_e rfl h) rfl g0
    replace h := qa_push (z := (-2 : Int32)) (q := 18) (qa_e rfl h) rfl (by decide)
    obtain ⟨r3, er3⟩ : ∃ x, x = (ma_152_99 (-2 : Int32) m1) := ⟨_, rfl⟩
    obtain ⟨M, h, hM, es⟩ := qa_c1 (y := 152) (as := [.ref 99, .int ((-2 : Int32))]) (rest := []) (i := .invokevirtual 152) (q := 21) (qa_e rfl h) (Or.inl rfl) rfl rfl (by decide) rfl (fun r hc => mb_152_99 hM es hc)
    rw [← er3] at h es
    have er := qa_ri (qa_e rfl h)
    subst er
    have e0 : ma_234_99 N a1 σ = (r3.1, r3.2) := by exact Eq.trans (qa_ie em1) (Eq.trans (if_pos c2) (Eq.trans (qa_ie er3) (rfl)))
    rw [e0]
    exact ⟨rfl, hM, es⟩
  · replace h := qa_ict (q := 22) (qa_e rfl h) rfl (qa_T_ne c2)
    replace h := qa_aload (n := 0) (q := 23) (qa_e rfl h) rfl g0
    obtain ⟨m4, em4⟩ : ∃ x, x = (ma_194_99 N m1) := ⟨_, rfl⟩
    obtain ⟨M, h, hM, es⟩ := qa_c0 (y := 194) (as := [.ref 99]) (rest := []) (i := .invokevirtual 194) (q := 26) (qa_e rfl h) (Or.inl rfl) rfl rfl (by decide) rfl (fun r hc => mb_194_99 hN hM es hc)
    rw [← em4] at es
    replace h := qa_push (z := (-9 : Int32)) (q := 28) (qa_e rfl h) rfl (by decide)
    obtain ⟨lv, h, g, T⟩ := qa_istore (n := 2) (q := 29) (qa_e rfl h) rfl
    replace g0 := T _ _ g0 (by decide) (Or.inr rfl)
    replace g1 := T _ _ g1 (by decide) (Or.inr rfl)
    have g2 := g
    clear g T
    replace h := qa_push (z := (-9 : Int32)) (q := 31) (qa_e rfl h) rfl (by decide)
    obtain ⟨lv, h, g, T⟩ := qa_istore (n := 3) (q := 32) (qa_e rfl h) rfl
    replace g0 := T _ _ g0 (by decide) (Or.inr rfl)
    replace g1 := T _ _ g1 (by decide) (Or.inr rfl)
    replace g2 := T _ _ g2 (by decide) (Or.inr rfl)
    have g3 := g
    clear g T
    replace h := qa_push (z := (0 : Int32)) (q := 33) (qa_e rfl h) rfl (by decide)
    obtain ⟨lv, h, g, T⟩ := qa_istore (n := 4) (q := 35) (qa_e rfl h) rfl
    replace g0 := T _ _ g0 (by decide) (Or.inr rfl)
    replace g1 := T _ _ g1 (by decide) (Or.inr rfl)
    replace g2 := T _ _ g2 (by decide) (Or.inr rfl)
    replace g3 := T _ _ g3 (by decide) (Or.inr rfl)
    have g4 := g
    clear g T
    obtain ⟨r5, er5⟩ : ∃ x, x = (qa_wh (fun s => s) (mc_234_99_p35 N a1 m4) N ((0 : Int32), (-9 : Int32), (-9 : Int32))) := ⟨_, rfl⟩
    have L := md_234_99_p35 (l1 := a1) (σ := m4) (F := f) (N := N) (r := r) hN f N hN (Nat.le_refl f) ((0 : Int32), (-9 : Int32), (-9 : Int32)) _ _ hM es g0 g1 g2 g3 g4 h
    rw [← er5] at L
    obtain ⟨lv, M, h, hM, es, g1, g2, g3⟩ := L
    replace h := qa_iload (n := 1) (q := 134) (qa_e rfl h) rfl g1
    obtain ⟨lv, M, h, hM, es⟩ : ∃ lv M, q4_run f 234 142 lv [.int ((if a1 = (0 : Int32) then r5.2.1 else r5.2.2))] M 0 0 = some r ∧ qa_O M ∧ qa_s M = m4 := by
      by_cases c6 : a1 = (0 : Int32)
      · replace h := qa_icf (q := 137) (qa_e rfl h) rfl (qa_F_ne c6)
        replace h := qa_iload (n := 2) (q := 138) (qa_e rfl h) rfl g2
        replace h := qa_goto (q := 142) (qa_e rfl h) rfl
        exact ⟨lv, M, (qa_hi1 c6 h), hM, es⟩
      · replace h := qa_ict (q := 141) (qa_e rfl h) rfl (qa_T_ne c6)
        replace h := qa_iload (n := 3) (q := 142) (qa_e rfl h) rfl g3
        exact ⟨lv, M, (qa_hi0 c6 h), hM, es⟩
    have er := qa_ri (qa_e rfl h)
    subst er
    have e0 : ma_234_99 N a1 σ = ((if a1 = (0 : Int32) then r5.2.1 else r5.2.2), m4) := by exact Eq.trans (qa_ie em1) (Eq.trans (if_neg c2) (Eq.trans (qa_ie em4) (Eq.trans (qa_ie er5) (rfl))))
    rw [e0]
    exact ⟨rfl, hM, es⟩
noncomputable def mc_235_99_p46 (N : Nat) (l1 : Int32) (l4 : Int32) (s : Int32 × Int32 × Int32 × qa_S) : (Int32 × Int32 × Int32 × qa_S) ⊕ (Int32 × Int32 × Int32 × qa_S) :=
  if (1 : Int32) < s.1 then
    .inr (s.1, s.2.1, s.2.2.1, s.2.2.2)
  else
    qa_in (qa_u s.2.2.2 110 l4.toNatClampNeg ((s.2.2.2 103 l4.toNatClampNeg) + s.1)) fun m3 =>
    qa_in ((ma_218_99 N m3)) fun r4 =>
    qa_in (qa_u r4.2 110 l4.toNatClampNeg (r4.2 103 l4.toNatClampNeg)) fun m6 =>
    qa_in ((if (ma_158 (((s.2.2.2 103 l4.toNatClampNeg) + s.1)).toInt64 (0 : Int64) (9 : Int64)) = (0 : Int32) then s.2.2.2 else m6)) fun m10 =>
    .inl ((s.1 + (2 : Int32)), (if (ma_158 (((s.2.2.2 103 l4.toNatClampNeg) + s.1)).toInt64 (0 : Int64) (9 : Int64)) = (0 : Int32) then s.2.1 else (s.2.1 + (if (if r4.1 = (0 : Int32) then (1 : Int32) else (0 : Int32)) = (0 : Int32) then (0 : Int32) else (1 : Int32)))), (if (ma_158 (((s.2.2.2 103 l4.toNatClampNeg) + s.1)).toInt64 (0 : Int64) (9 : Int64)) = (0 : Int32) then s.2.2.1 else (if (if r4.1 = (0 : Int32) then (1 : Int32) else (0 : Int32)) = (0 : Int32) then s.2.2.1 else (if s.2.2.1 < (0 : Int32) then (((10 : Int32) * l4) + ((s.2.2.2 103 l4.toNatClampNeg) + s.1)) else s.2.2.1))), m10)
theorem md_235_99_p46 {N F : Nat} {r : Option Value × q4_M} {l1 : Int32} {l4 : Int32} (hN : F ≤ N) : ∀ f n, f ≤ n → f ≤ F → ∀ (s : Int32 × Int32 × Int32 × qa_S) (lv : List (Nat × Value)) (M : q4_M), qa_O M → qa_s M = s.2.2.2 → q4_get lv 0 = some (.ref 99) → q4_get lv 1 = some (.int (l1)) → q4_get lv 2 = some (.int (s.2.1)) → q4_get lv 3 = some (.int (s.2.2.1)) → q4_get lv 4 = some (.int (l4)) → q4_get lv 5 = some (.int (s.1)) → q4_run f 235 46 lv [] M 0 0 = some r → ∃ lv M, q4_run F 235 155 lv [] M 0 0 = some r ∧ qa_O M ∧ qa_s M = (qa_wh (fun s => s) (mc_235_99_p46 N l1 l4) n s).2.2.2 ∧ q4_get lv 0 = some (.ref 99) ∧ q4_get lv 1 = some (.int (l1)) ∧ q4_get lv 2 = some (.int ((qa_wh (fun s => s) (mc_235_99_p46 N l1 l4) n s).2.1)) ∧ q4_get lv 3 = some (.int ((qa_wh (fun s => s) (mc_235_99_p46 N l1 l4) n s).2.2.1)) ∧ q4_get lv 4 = some (.int (l4)) := by
  intro f
  induction f with
  | zero => intro n _ _ s lv M hM es _ _ _ _ _ _ h; cases h
  | succ f ih =>
    intro n hn hF s lv M hM es g0 g1 g2 g3 g4 g5 h
    obtain ⟨n, rfl⟩ : ∃ n1, n = n1 + 1 := ⟨n - 1, by omega⟩
    replace hn : f ≤ n := Nat.le_of_succ_le_succ hn
    have hN := Nat.le_trans (Nat.le_of_succ_le hF) hN
    replace h := qa_iload (n := 5) (q := 48) (qa_d rfl h) rfl g5
    replace h := qa_push (z := (1 : Int32)) (q := 49) (qa_e rfl h) rfl (by decide)
    by_cases c1 : (1 : Int32) < s.1
    · replace h := qa_ift (q := 155) (qa_e rfl h) rfl (qa_T_gt c1)
      have e0 : mc_235_99_p46 N l1 l4 s = .inr (s.1, s.2.1, s.2.2.1, s.2.2.2) := by exact Eq.trans (if_pos c1) (rfl)
      rw [qa_whr e0]
      exact ⟨_, _, q61_mono f F _ _ _ _ _ _ _ _ (Nat.le_of_succ_le hF) h, hM, es, g0, g1, g2, g3, g4⟩
    · replace h := qa_iff (q := 52) (qa_e rfl h) rfl (qa_F_gt c1)
      replace h := qa_aload (n := 0) (q := 53) (qa_e rfl h) rfl g0
      replace h := qa_gr (b := 103) (j := 4) (q := 56) (qa_e rfl h) rfl hM rfl (by decide)
      replace h := qa_iload (n := 4) (q := 58) (qa_e rfl h) rfl g4
      replace h := qa_iaload (jn := l4.toNatClampNeg) (q := 59) (qa_e rfl h) rfl hM es rfl
      replace h := qa_iload (n := 5) (q := 61) (qa_e rfl h) rfl g5
      replace h := qa_iadd (q := 62) (qa_e rfl h) rfl
      obtain ⟨lv, h, g, T⟩ := qa_istore (n := 6) (q := 64) (qa_e rfl h) rfl
      replace g0 := T _ _ g0 (by decide) (Or.inr rfl)
      replace g1 := T _ _ g1 (by decide) (Or.inr rfl)
      replace g2 := T _ _ g2 (by decide) (Or.inr rfl)
      replace g3 := T _ _ g3 (by decide) (Or.inr rfl)
      replace g4 := T _ _ g4 (by decide) (Or.inr rfl)
      replace g5 := T _ _ g5 (by decide) (Or.inr rfl)
      have g6 := g
      clear g T
      replace h := qa_iload (n := 6) (q := 66) (qa_e rfl h) rfl g6
      replace h := qa_i2l (q := 67) (qa_e rfl h) rfl
      replace h := qa_lpush (z := (0 : Int64)) (q := 68) (qa_e rfl h) rfl (by decide)
      replace h := qa_lpush (z := (9 : Int64)) (q := 71) (qa_e rfl h) rfl (by decide)
      obtain ⟨M, h, hM, es⟩ := qa_c1 (y := 158) (as := [.long ((((s.2.2.2 103 l4.toNatClampNeg) + s.1)).toInt64), .long ((0 : Int64)), .long ((9 : Int64))]) (rest := []) (i := .invokestatic 158) (q := 74) (qa_e rfl h) (Or.inr rfl) rfl rfl (by decide) rfl (fun r hc => mb_158 hM es hc)
      obtain ⟨m3, em3⟩ : ∃ x, x = qa_u s.2.2.2 110 l4.toNatClampNeg ((s.2.2.2 103 l4.toNatClampNeg) + s.1) := ⟨_, rfl⟩
      obtain ⟨r4, er4⟩ : ∃ x, x = (ma_218_99 N m3) := ⟨_, rfl⟩
      obtain ⟨m6, em6⟩ : ∃ x, x = qa_u r4.2 110 l4.toNatClampNeg (r4.2 103 l4.toNatClampNeg) := ⟨_, rfl⟩
      obtain ⟨m10, em10⟩ : ∃ x, x = (if (ma_158 (((s.2.2.2 103 l4.toNatClampNeg) + s.1)).toInt64 (0 : Int64) (9 : Int64)) = (0 : Int32) then s.2.2.2 else m6) := ⟨_, rfl⟩
      obtain ⟨lv, M, h, hM, es, g0, g1, g2, g3, g4, g5⟩ : ∃ lv M, q4_run f 235 149 lv [] M 0 0 = some r ∧ qa_O M ∧ qa_s M = m10 ∧ q4_get lv 0 = some (.ref 99) ∧ q4_get lv 1 = some (.int (l1)) ∧ q4_get lv 2 = some (.int ((if (ma_158 (((s.2.2.2 103 l4.toNatClampNeg) + s.1)).toInt64 (0 : Int64) (9 : Int64)) = (0 : Int32) then s.2.1 else (s.2.1 + (if (if r4.1 = (0 : Int32) then (1 : Int32) else (0 : Int32)) = (0 : Int32) then (0 : Int32) else (1 : Int32)))))) ∧ q4_get lv 3 = some (.int ((if (ma_158 (((s.2.2.2 103 l4.toNatClampNeg) + s.1)).toInt64 (0 : Int64) (9 : Int64)) = (0 : Int32) then s.2.2.1 else (if (if r4.1 = (0 : Int32) then (1 : Int32) else (0 : Int32)) = (0 : Int32) then s.2.2.1 else (if s.2.2.1 < (0 : Int32) then (((10 : Int32) * l4) + ((s.2.2.2 103 l4.toNatClampNeg) + s.1)) else s.2.2.1))))) ∧ q4_get lv 4 = some (.int (l4)) ∧ q4_get lv 5 = some (.int (s.1)) := by
        by_cases c2 : (ma_158 (((s.2.2.2 103 l4.toNatClampNeg) + s.1)).toInt64 (0 : Int64) (9 : Int64)) = (0 : Int32)
        · replace h := qa_ict (q := 149) (qa_e rfl h) rfl (qa_T_eq c2)
          exact ⟨lv, M, h, hM, ((qa_ms1 c2 es).trans em10.symm), g0, g1, (qa_gi1 c2 g2), (qa_gi1 c2 g3), g4, g5⟩
        · replace h := qa_icf (q := 77) (qa_e rfl h) rfl (qa_F_eq c2)
          replace h := qa_aload (n := 0) (q := 78) (qa_e rfl h) rfl g0
          replace h := qa_gr (b := 110) (j := 13) (q := 81) (qa_e rfl h) rfl hM rfl (by decide)
          replace h := qa_iload (n := 4) (q := 83) (qa_e rfl h) rfl g4
          replace h := qa_iload (n := 6) (q := 85) (qa_e rfl h) rfl g6
          obtain ⟨M, h, hM, es⟩ := qa_iastore (jn := l4.toNatClampNeg) (q := 86) (qa_e rfl h) rfl hM es rfl
          rw [← em3] at es
          replace h := qa_aload (n := 0) (q := 87) (qa_e rfl h) rfl g0
          obtain ⟨M, h, hM, es⟩ := qa_c1 (y := 218) (as := [.ref 99]) (rest := []) (i := .invokevirtual 218) (q := 90) (qa_e rfl h) (Or.inl rfl) rfl rfl (by decide) rfl (fun r hc => mb_218_99 hN hM es hc)
          rw [← er4] at h es
          obtain ⟨lv, M, h, hM, es, g0, g1, g2, g3, g4, g5, g6⟩ : ∃ lv M, q4_run f 235 98 lv [.int ((if r4.1 = (0 : Int32) then (1 : Int32) else (0 : Int32)))] M 0 0 = some r ∧ qa_O M ∧ qa_s M = r4.2 ∧ q4_get lv 0 = some (.ref 99) ∧ q4_get lv 1 = some (.int (l1)) ∧ q4_get lv 2 = some (.int (s.2.1)) ∧ q4_get lv 3 = some (.int (s.2.2.1)) ∧ q4_get lv 4 = some (.int (l4)) ∧ q4_get lv 5 = some (.int (s.1)) ∧ q4_get lv 6 = some (.int (((s.2.2.2 103 l4.toNatClampNeg) + s.1))) := by
            by_cases c5 : r4.1 = (0 : Int32)
            · replace h := qa_icf (q := 93) (qa_e rfl h) rfl (qa_F_ne c5)
              replace h := qa_push (z := (1 : Int32)) (q := 94) (qa_e rfl h) rfl (by decide)
              replace h := qa_goto (q := 98) (qa_e rfl h) rfl
              exact ⟨lv, M, (qa_hi1 c5 h), hM, es, g0, g1, g2, g3, g4, g5, g6⟩
            · replace h := qa_ict (q := 97) (qa_e rfl h) rfl (qa_T_ne c5)
              replace h := qa_push (z := (0 : Int32)) (q := 98) (qa_e rfl h) rfl (by decide)
              exact ⟨lv, M, (qa_hi0 c5 h), hM, es, g0, g1, g2, g3, g4, g5, g6⟩
          obtain ⟨lv, h, g, T⟩ := qa_istore (n := 7) (q := 100) (qa_e rfl h) rfl
          replace g0 := T _ _ g0 (by decide) (Or.inr rfl)
          replace g1 := T _ _ g1 (by decide) (Or.inr rfl)
          replace g2 := T _ _ g2 (by decide) (Or.inr rfl)
          replace g3 := T _ _ g3 (by decide) (Or.inr rfl)
          replace g4 := T _ _ g4 (by decide) (Or.inr rfl)
          replace g5 := T _ _ g5 (by decide) (Or.inr rfl)
          replace g6 := T _ _ g6 (by decide) (Or.inr rfl)
          have g7 := g
          clear g T
          replace h := qa_aload (n := 0) (q := 101) (qa_e rfl h) rfl g0
          replace h := qa_gr (b := 110) (j := 13) (q := 104) (qa_e rfl h) rfl hM rfl (by decide)
          replace h := qa_iload (n := 4) (q := 106) (qa_e rfl h) rfl g4
          replace h := qa_aload (n := 0) (q := 107) (qa_e rfl h) rfl g0
          replace h := qa_gr (b := 103) (j := 4) (q := 110) (qa_e rfl h) rfl hM rfl (by decide)
          replace h := qa_iload (n := 4) (q := 112) (qa_e rfl h) rfl g4
          replace h := qa_iaload (jn := l4.toNatClampNeg) (q := 113) (qa_e rfl h) rfl hM es rfl
          obtain ⟨M, h, hM, es⟩ := qa_iastore (jn := l4.toNatClampNeg) (q := 114) (qa_e rfl h) rfl hM es rfl
          rw [← em6] at es
          replace h := qa_iload (n := 2) (q := 115) (qa_e rfl h) rfl g2
          replace h := qa_iload (n := 7) (q := 117) (qa_e rfl h) rfl g7
          obtain ⟨lv, M, h, hM, es, g0, g1, g3, g4, g5, g6, g7⟩ : ∃ lv M, q4_run f 235 125 lv [.int ((if (if r4.1 = (0 : Int32) then (1 : Int32) else (0 : Int32)) = (0 : Int32) then (0 : Int32) else (1 : Int32))), .int (s.2.1)] M 0 0 = some r ∧ qa_O M ∧ qa_s M = m6 ∧ q4_get lv 0 = some (.ref 99) ∧ q4_get lv 1 = some (.int (l1)) ∧ q4_get lv 3 = some (.int (s.2.2.1)) ∧ q4_get lv 4 = some (.int (l4)) ∧ q4_get lv 5 = some (.int (s.1)) ∧ q4_get lv 6 = some (.int (((s.2.2.2 103 l4.toNatClampNeg) + s.1))) ∧ q4_get lv 7 = some (.int ((if r4.1 = (0 : Int32) then (1 : Int32) else (0 : Int32)))) := by
            by_cases c7 : (if r4.1 = (0 : Int32) then (1 : Int32) else (0 : Int32)) = (0 : Int32)
            · replace h := qa_ict (q := 124) (qa_e rfl h) rfl (qa_T_eq c7)
              replace h := qa_push (z := (0 : Int32)) (q := 125) (qa_e rfl h) rfl (by decide)
              exact ⟨lv, M, (qa_hi1 c7 h), hM, es, g0, g1, g3, g4, g5, g6, g7⟩
            · replace h := qa_icf (q := 120) (qa_e rfl h) rfl (qa_F_eq c7)
              replace h := qa_push (z := (1 : Int32)) (q := 121) (qa_e rfl h) rfl (by decide)
              replace h := qa_goto (q := 125) (qa_e rfl h) rfl
              exact ⟨lv, M, (qa_hi0 c7 h), hM, es, g0, g1, g3, g4, g5, g6, g7⟩
          replace h := qa_iadd (q := 126) (qa_e rfl h) rfl
          obtain ⟨lv, h, g, T⟩ := qa_istore (n := 2) (q := 127) (qa_e rfl h) rfl
          replace g0 := T _ _ g0 (by decide) (Or.inr rfl)
          replace g1 := T _ _ g1 (by decide) (Or.inr rfl)
          replace g3 := T _ _ g3 (by decide) (Or.inr rfl)
          replace g4 := T _ _ g4 (by decide) (Or.inr rfl)
          replace g5 := T _ _ g5 (by decide) (Or.inr rfl)
          replace g6 := T _ _ g6 (by decide) (Or.inr rfl)
          replace g7 := T _ _ g7 (by decide) (Or.inr rfl)
          have g2 := g
          clear g T
          replace h := qa_iload (n := 7) (q := 129) (qa_e rfl h) rfl g7
          obtain ⟨lv, M, h, hM, es, g0, g1, g2, g4, g5⟩ : ∃ lv M, q4_run f 235 148 lv [.int ((if (if r4.1 = (0 : Int32) then (1 : Int32) else (0 : Int32)) = (0 : Int32) then s.2.2.1 else (if s.2.2.1 < (0 : Int32) then (((10 : Int32) * l4) + ((s.2.2.2 103 l4.toNatClampNeg) + s.1)) else s.2.2.1)))] M 0 0 = some r ∧ qa_O M ∧ qa_s M = m6 ∧ q4_get lv 0 = some (.ref 99) ∧ q4_get lv 1 = some (.int (l1)) ∧ q4_get lv 2 = some (.int ((s.2.1 + (if (if r4.1 = (0 : Int32) then (1 : Int32) else (0 : Int32)) = (0 : Int32) then (0 : Int32) else (1 : Int32))))) ∧ q4_get lv 4 = some (.int (l4)) ∧ q4_get lv 5 = some (.int (s.1)) := by
            by_cases c8 : (if r4.1 = (0 : Int32) then (1 : Int32) else (0 : Int32)) = (0 : Int32)
            · replace h := qa_ict (q := 147) (qa_e rfl h) rfl (qa_T_eq c8)
              replace h := qa_iload (n := 3) (q := 148) (qa_e rfl h) rfl g3
              exact ⟨lv, M, (qa_hi1 c8 h), hM, es, g0, g1, g2, g4, g5⟩
            · replace h := qa_icf (q := 132) (qa_e rfl h) rfl (qa_F_eq c8)
              replace h := qa_iload (n := 3) (q := 133) (qa_e rfl h) rfl g3
              obtain ⟨lv, M, h, hM, es, g0, g1, g2, g4, g5⟩ : ∃ lv M, q4_run f 235 148 lv [.int ((if s.2.2.1 < (0 : Int32) then (((10 : Int32) * l4) + ((s.2.2.2 103 l4.toNatClampNeg) + s.1)) else s.2.2.1))] M 0 0 = some r ∧ qa_O M ∧ qa_s M = m6 ∧ q4_get lv 0 = some (.ref 99) ∧ q4_get lv 1 = some (.int (l1)) ∧ q4_get lv 2 = some (.int ((s.2.1 + (if (if r4.1 = (0 : Int32) then (1 : Int32) else (0 : Int32)) = (0 : Int32) then (0 : Int32) else (1 : Int32))))) ∧ q4_get lv 4 = some (.int (l4)) ∧ q4_get lv 5 = some (.int (s.1)) := by
                by_cases c9 : s.2.2.1 < (0 : Int32)
                · replace h := qa_icf (q := 136) (qa_e rfl h) rfl (qa_F_ge c9)
                  replace h := qa_push (z := (10 : Int32)) (q := 138) (qa_e rfl h) rfl (by decide)
                  replace h := qa_iload (n := 4) (q := 140) (qa_e rfl h) rfl g4
                  replace h := qa_imul (q := 141) (qa_e rfl h) rfl
                  replace h := qa_iload (n := 6) (q := 143) (qa_e rfl h) rfl g6
                  replace h := qa_iadd (q := 144) (qa_e rfl h) rfl
                  replace h := qa_goto (q := 148) (qa_e rfl h) rfl
                  exact ⟨lv, M, (qa_hi1 c9 h), hM, es, g0, g1, g2, g4, g5⟩
                · replace h := qa_ict (q := 147) (qa_e rfl h) rfl (qa_T_ge c9)
                  replace h := qa_iload (n := 3) (q := 148) (qa_e rfl h) rfl g3
                  exact ⟨lv, M, (qa_hi0 c9 h), hM, es, g0, g1, g2, g4, g5⟩
              exact ⟨lv, M, (qa_hi0 c8 h), hM, es, g0, g1, g2, g4, g5⟩
          obtain ⟨lv, h, g, T⟩ := qa_istore (n := 3) (q := 149) (qa_e rfl h) rfl
          replace g0 := T _ _ g0 (by decide) (Or.inr rfl)
          replace g1 := T _ _ g1 (by decide) (Or.inr rfl)
          replace g2 := T _ _ g2 (by decide) (Or.inr rfl)
          replace g4 := T _ _ g4 (by decide) (Or.inr rfl)
          replace g5 := T _ _ g5 (by decide) (Or.inr rfl)
          have g3 := g
          clear g T
          exact ⟨lv, M, h, hM, ((qa_ms0 c2 es).trans em10.symm), g0, g1, (qa_gi0 c2 g2), (qa_gi0 c2 g3), g4, g5⟩
      obtain ⟨lv, h, g, T⟩ := qa_iinc (n := 5) (z := (2 : Int32)) (q := 152) (qa_e rfl h) rfl (by decide) g5
      replace g0 := T _ _ g0 (by decide) (Or.inr rfl)
      replace g1 := T _ _ g1 (by decide) (Or.inr rfl)
      replace g2 := T _ _ g2 (by decide) (Or.inr rfl)
      replace g3 := T _ _ g3 (by decide) (Or.inr rfl)
      replace g4 := T _ _ g4 (by decide) (Or.inr rfl)
      replace g5 := g
      clear g T
      replace h := qa_goto (q := 46) (qa_e rfl h) rfl
      have e0 : mc_235_99_p46 N l1 l4 s = .inl ((s.1 + (2 : Int32)), (if (ma_158 (((s.2.2.2 103 l4.toNatClampNeg) + s.1)).toInt64 (0 : Int64) (9 : Int64)) = (0 : Int32) then s.2.1 else (s.2.1 + (if (if r4.1 = (0 : Int32) then (1 : Int32) else (0 : Int32)) = (0 : Int32) then (0 : Int32) else (1 : Int32)))), (if (ma_158 (((s.2.2.2 103 l4.toNatClampNeg) + s.1)).toInt64 (0 : Int64) (9 : Int64)) = (0 : Int32) then s.2.2.1 else (if (if r4.1 = (0 : Int32) then (1 : Int32) else (0 : Int32)) = (0 : Int32) then s.2.2.1 else (if s.2.2.1 < (0 : Int32) then (((10 : Int32) * l4) + ((s.2.2.2 103 l4.toNatClampNeg) + s.1)) else s.2.2.1))), m10) := by exact Eq.trans (if_neg c1) (Eq.trans (qa_ie em3) (Eq.trans (qa_ie er4) (Eq.trans (qa_ie em6) (Eq.trans (qa_ie em10) (rfl)))))
      rw [qa_whl e0]
      exact ih n hn (Nat.le_of_succ_le hF) ((s.1 + (2 : Int32)), (if (ma_158 (((s.2.2.2 103 l4.toNatClampNeg) + s.1)).toInt64 (0 : Int64) (9 : Int64)) = (0 : Int32) then s.2.1 else (s.2.1 + (if (if r4.1 = (0 : Int32) then (1 : Int32) else (0 : Int32)) = (0 : Int32) then (0 : Int32) else (1 : Int32)))), (if (ma_158 (((s.2.2.2 103 l4.toNatClampNeg) + s.1)).toInt64 (0 : Int64) (9 : Int64)) = (0 : Int32) then s.2.2.1 else (if (if r4.1 = (0 : Int32) then (1 : Int32) else (0 : Int32)) = (0 : Int32) then s.2.2.1 else (if s.2.2.1 < (0 : Int32) then (((10 : Int32) * l4) + ((s.2.2.2 103 l4.toNatClampNeg) + s.1)) else s.2.2.1))), m10) _ _ hM es g0 g1 g2 g3 g4 g5 h
noncomputable def mc_235_99_p34 (N : Nat) (l1 : Int32) (s : Int32 × Int32 × Int32 × qa_S) : (Int32 × Int32 × Int32 × qa_S) ⊕ (Int32 × Int32 × Int32 × qa_S) :=
  if s.1 < (s.2.2.2 99 0) then
    qa_in ((qa_wh (fun s => s) (mc_235_99_p46 N l1 s.1) N ((-1 : Int32), s.2.1, s.2.2.1, s.2.2.2))) fun r2 =>
    .inl ((s.1 + (1 : Int32)), r2.2.1, r2.2.2.1, r2.2.2.2)
  else
    .inr (s.1, s.2.1, s.2.2.1, s.2.2.2)
theorem md_235_99_p34 {N F : Nat} {r : Option Value × q4_M} {l1 : Int32} (hN : F ≤ N) : ∀ f n, f ≤ n → f ≤ F → ∀ (s : Int32 × Int32 × Int32 × qa_S) (lv : List (Nat × Value)) (M : q4_M), qa_O M → qa_s M = s.2.2.2 → q4_get lv 0 = some (.ref 99) → q4_get lv 1 = some (.int (l1)) → q4_get lv 2 = some (.int (s.2.1)) → q4_get lv 3 = some (.int (s.2.2.1)) → q4_get lv 4 = some (.int (s.1)) → q4_run f 235 34 lv [] M 0 0 = some r → ∃ lv M, q4_run F 235 161 lv [] M 0 0 = some r ∧ qa_O M ∧ qa_s M = (qa_wh (fun s => s) (mc_235_99_p34 N l1) n s).2.2.2 ∧ q4_get lv 1 = some (.int (l1)) ∧ q4_get lv 2 = some (.int ((qa_wh (fun s => s) (mc_235_99_p34 N l1) n s).2.1)) ∧ q4_get lv 3 = some (.int ((qa_wh (fun s => s) (mc_235_99_p34 N l1) n s).2.2.1)) := by
  intro f
  induction f with
  | zero => intro n _ _ s lv M hM es _ _ _ _ _ h; cases h
  | succ f ih =>
    intro n hn hF s lv M hM es g0 g1 g2 g3 g4 h
    obtain ⟨n, rfl⟩ : ∃ n1, n = n1 + 1 := ⟨n - 1, by omega⟩
    replace hn : f ≤ n := Nat.le_of_succ_le_succ hn
    have hN := Nat.le_trans (Nat.le_of_succ_le hF) hN
    replace h := qa_iload (n := 4) (q := 36) (qa_d rfl h) rfl g4
    replace h := qa_aload (n := 0) (q := 37) (qa_e rfl h) rfl g0
    replace h := qa_gi (j := 0) (q := 40) (qa_e rfl h) rfl hM es rfl (by decide)
    by_cases c1 : s.1 < (s.2.2.2 99 0)
    · replace h := qa_iff (q := 43) (qa_e rfl h) rfl (qa_F_ge c1)
      replace h := qa_push (z := (-1 : Int32)) (q := 44) (qa_e rfl h) rfl (by decide)
      obtain ⟨lv, h, g, T⟩ := qa_istore (n := 5) (q := 46) (qa_e rfl h) rfl
      replace g0 := T _ _ g0 (by decide) (Or.inr rfl)
      replace g1 := T _ _ g1 (by decide) (Or.inr rfl)
      replace g2 := T _ _ g2 (by decide) (Or.inr rfl)
      replace g3 := T _ _ g3 (by decide) (Or.inr rfl)
      replace g4 := T _ _ g4 (by decide) (Or.inr rfl)
      have g5 := g
      clear g T
      obtain ⟨r2, er2⟩ : ∃ x, x = (qa_wh (fun s => s) (mc_235_99_p46 N l1 s.1) N ((-1 : Int32), s.2.1, s.2.2.1, s.2.2.2)) := ⟨_, rfl⟩
      have L := md_235_99_p46 (l1 := l1) (l4 := s.1) (F := f) (N := N) (r := r) hN f N hN (Nat.le_refl f) ((-1 : Int32), s.2.1, s.2.2.1, s.2.2.2) _ _ hM es g0 g1 g2 g3 g4 g5 h
      rw [← er2] at L
      obtain ⟨lv, M, h, hM, es, g0, g1, g2, g3, g4⟩ := L
      obtain ⟨lv, h, g, T⟩ := qa_iinc (n := 4) (z := (1 : Int32)) (q := 158) (qa_e rfl h) rfl (by decide) g4
      replace g0 := T _ _ g0 (by decide) (Or.inr rfl)
      replace g1 := T _ _ g1 (by decide) (Or.inr rfl)
      replace g2 := T _ _ g2 (by decide) (Or.inr rfl)
      replace g3 := T _ _ g3 (by decide) (Or.inr rfl)
      replace g4 := g
      clear g T
      replace h := qa_goto (q := 34) (qa_e rfl h) rfl
      have e0 : mc_235_99_p34 N l1 s = .inl ((s.1 + (1 : Int32)), r2.2.1, r2.2.2.1, r2.2.2.2) := by exact Eq.trans (if_pos c1) (Eq.trans (qa_ie er2) (rfl))
      rw [qa_whl e0]
      exact ih n hn (Nat.le_of_succ_le hF) ((s.1 + (1 : Int32)), r2.2.1, r2.2.2.1, r2.2.2.2) _ _ hM es g0 g1 g2 g3 g4 h
    · replace h := qa_ift (q := 161) (qa_e rfl h) rfl (qa_T_ge c1)
      have e0 : mc_235_99_p34 N l1 s = .inr (s.1, s.2.1, s.2.2.1, s.2.2.2) := by exact Eq.trans (if_neg c1) (rfl)
      rw [qa_whr e0]
      exact ⟨_, _, q61_mono f F _ _ _ _ _ _ _ _ (Nat.le_of_succ_le hF) h, hM, es, g1, g2, g3⟩
/-- BuriedBySevensModel, hidden, (I)I -/
noncomputable def ma_235_99 (N : Nat) (a1 : Int32) (σ : qa_S) : Int32 × qa_S :=
  qa_in (qa_u σ 99 9 (0 : Int32)) fun m1 =>
  if (ma_158 (a1).toInt64 (0 : Int64) (1 : Int64)) = (0 : Int32) then
    qa_in ((ma_152_99 (-2 : Int32) m1)) fun r3 =>
    (r3.1, r3.2)
  else
    qa_in ((ma_180_99 N m1)) fun m4 =>
    qa_in ((qa_wh (fun s => s) (mc_235_99_p34 N a1) N ((0 : Int32), (0 : Int32), (-9 : Int32), m4))) fun r5 =>
    ((if a1 = (0 : Int32) then r5.2.1 else r5.2.2.1), r5.2.2.2)
theorem mb_235_99 {f N : Nat} (hN : f ≤ N) {M : q4_M} {r : Option Value × q4_M} {σ : qa_S} {a1 : Int32} (hM : qa_O M) (es : qa_s M = σ) (h : q4_run f 235 0 (lv_args 0 [.ref 99, .int (a1)]) [] M 0 0 = some r) : r.1 = some (.int ((ma_235_99 N a1 σ).1)) ∧ qa_O r.2 ∧ qa_s r.2 = (ma_235_99 N a1 σ).2 := by
  obtain ⟨lv, el⟩ : ∃ l, l = lv_args 0 [.ref 99, .int (a1)] := ⟨_, rfl⟩
  have g0 : q4_get lv 0 = some (.ref 99) := by rw [el]; rfl
  have g1 : q4_get lv 1 = some (.int (a1)) := by rw [el]; rfl
  rw [← el] at h
  clear el
  replace h := qa_aload (n := 0) (q := 1) (qa_e rfl h) rfl g0
  replace h := qa_push (z := (0 : Int32)) (q := 2) (qa_e rfl h) rfl (by decide)
  obtain ⟨m1, em1⟩ : ∃ x, x = qa_u σ 99 9 (0 : Int32) := ⟨_, rfl⟩
  obtain ⟨M, h, hM, es⟩ := qa_pf (j := 9) (q := 5) (qa_e rfl h) rfl hM es rfl (by decide)
  rw [← em1] at es
  replace h := qa_iload (n := 1) (q := 6) (qa_e rfl h) rfl g1
  replace h := qa_i2l (q := 7) (qa_e rfl h) rfl
  replace h := qa_lpush (z := (0 : Int64)) (q := 8) (qa_e rfl h) rfl (by decide)
  replace h := qa_lpush (z := (1 : Int64)) (q := 9) (qa_e rfl h) rfl (by decide)
  obtain ⟨M, h, hM, es⟩ := qa_c1 (y := 158) (as := [.long ((a1).toInt64), .long ((0 : Int64)), .long ((1 : Int64))]) (rest := []) (i := .invokestatic 158) (q := 12) (qa_e rfl h) (Or.inr rfl) rfl rfl (by decide) rfl (fun r hc => mb_158 hM es hc)
  by_cases c2 : (ma_158 (a1).toInt64 (0 : Int64) (1 : Int64)) = (0 : Int32)
  · replace h := qa_icf (q := 15) (qa_e rfl h) rfl (qa_F_ne c2)
    replace h := qa_aload (n := 0) (q := 16) (qa_e rfl h) rfl g0
    replace h := qa_push (z := (-2 : Int32)) (q := 18) (qa_e rfl h) rfl (by decide)
    obtain ⟨r3, er3⟩ : ∃ x, x = (ma_152_99 (-2 : Int32) m1) := ⟨_, rfl⟩
    obtain ⟨M, h, hM, es⟩ := qa_c1 (y := 152) (as := [.ref 99, .int ((-2 : Int32))]) (rest := []) (i := .invokevirtual 152) (q := 21) (qa_e rfl h) (Or.inl rfl) rfl rfl (by decide) rfl (fun r hc => mb_152_99 hM es hc)
    rw [← er3] at h es
    have er := qa_ri (qa_e rfl h)
    subst er
    have e0 : ma_235_99 N a1 σ = (r3.1, r3.2) := by exact Eq.trans (qa_ie em1) (Eq.trans (if_pos c2) (Eq.trans (qa_ie er3) (rfl)))
    rw [e0]
    exact ⟨rfl, hM, es⟩
  · replace h := qa_ict (q := 22) (qa_e rfl h) rfl (qa_T_ne c2)
    replace h := qa_aload (n := 0) (q := 23) (qa_e rfl h) rfl g0
    obtain ⟨m4, em4⟩ : ∃ x, x = (ma_180_99 N m1) := ⟨_, rfl⟩
    obtain ⟨M, h, hM, es⟩ := qa_c0 (y := 180) (as := [.ref 99]) (rest := []) (i := .invokevirtual 180) (q := 26) (qa_e rfl h) (Or.inl rfl) rfl rfl (by decide) rfl (fun r hc => mb_180_99 hN hM es hc)
    rw [← em4] at es
    replace h := qa_push (z := (0 : Int32)) (q := 27) (qa_e rfl h) rfl (by decide)
    obtain ⟨lv, h, g, T⟩ := qa_istore (n := 2) (q := 28) (qa_e rfl h) rfl
    replace g0 := T _ _ g0 (by decide) (Or.inr rfl)
    replace g1 := T _ _ g1 (by decide) (Or.inr rfl)
    have g2 := g
    clear g T
    replace h := qa_push (z := (-9 : Int32)) (q := 30) (qa_e rfl h) rfl (by decide)
    obtain ⟨lv, h, g, T⟩ := qa_istore (n := 3) (q := 31) (qa_e rfl h) rfl
    replace g0 := T _ _ g0 (by decide) (Or.inr rfl)
    replace g1 := T _ _ g1 (by decide) (Or.inr rfl)
    replace g2 := T _ _ g2 (by decide) (Or.inr rfl)
    have g3 := g
    clear g T
    replace h := qa_push (z := (0 : Int32)) (q := 32) (qa_e rfl h) rfl (by decide)
    obtain ⟨lv, h, g, T⟩ := qa_istore (n := 4) (q := 34) (qa_e rfl h) rfl
    replace g0 := T _ _ g0 (by decide) (Or.inr rfl)
    replace g1 := T _ _ g1 (by decide) (Or.inr rfl)
    replace g2 := T _ _ g2 (by decide) (Or.inr rfl)
    replace g3 := T _ _ g3 (by decide) (Or.inr rfl)
    have g4 := g
    clear g T
    obtain ⟨r5, er5⟩ : ∃ x, x = (qa_wh (fun s => s) (mc_235_99_p34 N a1) N ((0 : Int32), (0 : Int32), (-9 : Int32), m4)) := ⟨_, rfl⟩
    have L := md_235_99_p34 (l1 := a1) (F := f) (N := N) (r := r) hN f N hN (Nat.le_refl f) ((0 : Int32), (0 : Int32), (-9 : Int32), m4) _ _ hM es g0 g1 g2 g3 g4 h
    rw [← er5] at L
    obtain ⟨lv, M, h, hM, es, g1, g2, g3⟩ := L
    replace h := qa_iload (n := 1) (q := 162) (qa_e rfl h) rfl g1
    obtain ⟨lv, M, h, hM, es⟩ : ∃ lv M, q4_run f 235 170 lv [.int ((if a1 = (0 : Int32) then r5.2.1 else r5.2.2.1))] M 0 0 = some r ∧ qa_O M ∧ qa_s M = r5.2.2.2 := by
      by_cases c6 : a1 = (0 : Int32)
      · replace h := qa_icf (q := 165) (qa_e rfl h) rfl (qa_F_ne c6)
        replace h := qa_iload (n := 2) (q := 166) (qa_e rfl h) rfl g2
        replace h := qa_goto (q := 170) (qa_e rfl h) rfl
        exact ⟨lv, M, (qa_hi1 c6 h), hM, es⟩
      · replace h := qa_ict (q := 169) (qa_e rfl h) rfl (qa_T_ne c6)
        replace h := qa_iload (n := 3) (q := 170) (qa_e rfl h) rfl g3
        exact ⟨lv, M, (qa_hi0 c6 h), hM, es⟩
    have er := qa_ri (qa_e rfl h)
    subst er
    have e0 : ma_235_99 N a1 σ = ((if a1 = (0 : Int32) then r5.2.1 else r5.2.2.1), r5.2.2.2) := by exact Eq.trans (qa_ie em1) (Eq.trans (if_neg c2) (Eq.trans (qa_ie em4) (Eq.trans (qa_ie er5) (rfl))))
    rw [e0]
    exact ⟨rfl, hM, es⟩
noncomputable def mc_236_99_p27 (N : Nat) (l1 : Int32) (σ : qa_S) (s : Int32 × Int32) : (Int32 × Int32) ⊕ (Int32 × Int32) :=
  if s.1 < (σ 99 0) then
    .inl ((s.1 + (1 : Int32)), (s.2 + (σ 103 s.1.toNatClampNeg)))
  else
    .inr (s.1, s.2)
theorem md_236_99_p27 {N F : Nat} {r : Option Value × q4_M} {l1 : Int32} {σ : qa_S} (hN : F ≤ N) : ∀ f n, f ≤ n → f ≤ F → ∀ (s : Int32 × Int32) (lv : List (Nat × Value)) (M : q4_M), qa_O M → qa_s M = σ → q4_get lv 0 = some (.ref 99) → q4_get lv 1 = some (.int (l1)) → q4_get lv 2 = some (.int (s.2)) → q4_get lv 3 = some (.int (s.1)) → q4_run f 236 27 lv [] M 0 0 = some r → ∃ lv M, q4_run F 236 50 lv [] M 0 0 = some r ∧ qa_O M ∧ qa_s M = σ ∧ q4_get lv 0 = some (.ref 99) ∧ q4_get lv 1 = some (.int (l1)) ∧ q4_get lv 2 = some (.int ((qa_wh (fun s => s) (mc_236_99_p27 N l1 σ) n s).2)) := by
  intro f
  induction f with
  | zero => intro n _ _ s lv M hM es _ _ _ _ h; cases h
  | succ f ih =>
    intro n hn hF s lv M hM es g0 g1 g2 g3 h
    obtain ⟨n, rfl⟩ : ∃ n1, n = n1 + 1 := ⟨n - 1, by omega⟩
    replace hn : f ≤ n := Nat.le_of_succ_le_succ hn
    have hN := Nat.le_trans (Nat.le_of_succ_le hF) hN
    replace h := qa_iload (n := 3) (q := 28) (qa_d rfl h) rfl g3
    replace h := qa_aload (n := 0) (q := 29) (qa_e rfl h) rfl g0
    replace h := qa_gi (j := 0) (q := 32) (qa_e rfl h) rfl hM es rfl (by decide)
    by_cases c1 : s.1 < (σ 99 0)
    · replace h := qa_iff (q := 35) (qa_e rfl h) rfl (qa_F_ge c1)
      replace h := qa_iload (n := 2) (q := 36) (qa_e rfl h) rfl g2
      replace h := qa_aload (n := 0) (q := 37) (qa_e rfl h) rfl g0
      replace h := qa_gr (b := 103) (j := 4) (q := 40) (qa_e rfl h) rfl hM rfl (by decide)
      replace h := qa_iload (n := 3) (q := 41) (qa_e rfl h) rfl g3
      replace h := qa_iaload (jn := s.1.toNatClampNeg) (q := 42) (qa_e rfl h) rfl hM es rfl
      replace h := qa_iadd (q := 43) (qa_e rfl h) rfl
      obtain ⟨lv, h, g, T⟩ := qa_istore (n := 2) (q := 44) (qa_e rfl h) rfl
      replace g0 := T _ _ g0 (by decide) (Or.inr rfl)
      replace g1 := T _ _ g1 (by decide) (Or.inr rfl)
      replace g3 := T _ _ g3 (by decide) (Or.inr rfl)
      have g2 := g
      clear g T
      obtain ⟨lv, h, g, T⟩ := qa_iinc (n := 3) (z := (1 : Int32)) (q := 47) (qa_e rfl h) rfl (by decide) g3
      replace g0 := T _ _ g0 (by decide) (Or.inr rfl)
      replace g1 := T _ _ g1 (by decide) (Or.inr rfl)
      replace g2 := T _ _ g2 (by decide) (Or.inr rfl)
      replace g3 := g
      clear g T
      replace h := qa_goto (q := 27) (qa_e rfl h) rfl
      have e0 : mc_236_99_p27 N l1 σ s = .inl ((s.1 + (1 : Int32)), (s.2 + (σ 103 s.1.toNatClampNeg))) := by exact Eq.trans (if_pos c1) (rfl)
      rw [qa_whl e0]
      exact ih n hn (Nat.le_of_succ_le hF) ((s.1 + (1 : Int32)), (s.2 + (σ 103 s.1.toNatClampNeg))) _ _ hM es g0 g1 g2 g3 h
    · replace h := qa_ift (q := 50) (qa_e rfl h) rfl (qa_T_ge c1)
      have e0 : mc_236_99_p27 N l1 σ s = .inr (s.1, s.2) := by exact Eq.trans (if_neg c1) (rfl)
      rw [qa_whr e0]
      exact ⟨_, _, q61_mono f F _ _ _ _ _ _ _ _ (Nat.le_of_succ_le hF) h, hM, es, g0, g1, g2⟩
noncomputable def mc_236_99_p76 (N : Nat) (l1 : Int32) (l2 : Int32) (l3 : Int32) (l4 : Int32) (l5 : Int32) (σ : qa_S) (s : Int32 × Int32) : (Int32 × Int32) ⊕ (Int32 × Int32) :=
  if s.1 < (σ 99 0) then
    .inl ((s.1 + (1 : Int32)), (s.2 + ((σ 103 s.1.toNatClampNeg) * (σ 108 (((4 : Int32) * s.1) + l5).toNatClampNeg))))
  else
    .inr (s.1, s.2)
theorem md_236_99_p76 {N F : Nat} {r : Option Value × q4_M} {l1 : Int32} {l2 : Int32} {l3 : Int32} {l4 : Int32} {l5 : Int32} {σ : qa_S} (hN : F ≤ N) : ∀ f n, f ≤ n → f ≤ F → ∀ (s : Int32 × Int32) (lv : List (Nat × Value)) (M : q4_M), qa_O M → qa_s M = σ → q4_get lv 0 = some (.ref 99) → q4_get lv 1 = some (.int (l1)) → q4_get lv 2 = some (.int (l2)) → q4_get lv 3 = some (.int (l3)) → q4_get lv 4 = some (.int (l4)) → q4_get lv 5 = some (.int (l5)) → q4_get lv 6 = some (.int (s.2)) → q4_get lv 7 = some (.int (s.1)) → q4_run f 236 76 lv [] M 0 0 = some r → ∃ lv M, q4_run F 236 116 lv [] M 0 0 = some r ∧ qa_O M ∧ qa_s M = σ ∧ q4_get lv 0 = some (.ref 99) ∧ q4_get lv 1 = some (.int (l1)) ∧ q4_get lv 2 = some (.int (l2)) ∧ q4_get lv 3 = some (.int (l3)) ∧ q4_get lv 4 = some (.int (l4)) ∧ q4_get lv 5 = some (.int (l5)) ∧ q4_get lv 6 = some (.int ((qa_wh (fun s => s) (mc_236_99_p76 N l1 l2 l3 l4 l5 σ) n s).2)) := by
  intro f
  induction f with
  | zero => intro n _ _ s lv M hM es _ _ _ _ _ _ _ _ h; cases h
  | succ f ih =>
    intro n hn hF s lv M hM es g0 g1 g2 g3 g4 g5 g6 g7 h
    obtain ⟨n, rfl⟩ : ∃ n1, n = n1 + 1 := ⟨n - 1, by omega⟩
    replace hn : f ≤ n := Nat.le_of_succ_le_succ hn
    have hN := Nat.le_trans (Nat.le_of_succ_le hF) hN
    replace h := qa_iload (n := 7) (q := 78) (qa_d rfl h) rfl g7
    replace h := qa_aload (n := 0) (q := 79) (qa_e rfl h) rfl g0
    replace h := qa_gi (j := 0) (q := 82) (qa_e rfl h) rfl hM es rfl (by decide)
    by_cases c1 : s.1 < (σ 99 0)
    · replace h := qa_iff (q := 85) (qa_e rfl h) rfl (qa_F_ge c1)
      replace h := qa_iload (n := 6) (q := 87) (qa_e rfl h) rfl g6
      replace h := qa_aload (n := 0) (q := 88) (qa_e rfl h) rfl g0
      replace h := qa_gr (b := 103) (j := 4) (q := 91) (qa_e rfl h) rfl hM rfl (by decide)
      replace h := qa_iload (n := 7) (q := 93) (qa_e rfl h) rfl g7
      replace h := qa_iaload (jn := s.1.toNatClampNeg) (q := 94) (qa_e rfl h) rfl hM es rfl
      replace h := qa_aload (n := 0) (q := 95) (qa_e rfl h) rfl g0
      replace h := qa_gr (b := 108) (j := 11) (q := 98) (qa_e rfl h) rfl hM rfl (by decide)
      replace h := qa_push (z := (4 : Int32)) (q := 99) (qa_e rfl h) rfl (by decide)
      replace h := qa_iload (n := 7) (q := 101) (qa_e rfl h) rfl g7
      replace h := qa_imul (q := 102) (qa_e rfl h) rfl
      replace h := qa_iload (n := 5) (q := 104) (qa_e rfl h) rfl g5
      replace h := qa_iadd (q := 105) (qa_e rfl h) rfl
      replace h := qa_iaload (jn := (((4 : Int32) * s.1) + l5).toNatClampNeg) (q := 106) (qa_e rfl h) rfl hM es rfl
      replace h := qa_imul (q := 107) (qa_e rfl h) rfl
      replace h := qa_iadd (q := 108) (qa_e rfl h) rfl
      obtain ⟨lv, h, g, T⟩ := qa_istore (n := 6) (q := 110) (qa_e rfl h) rfl
      replace g0 := T _ _ g0 (by decide) (Or.inr rfl)
      replace g1 := T _ _ g1 (by decide) (Or.inr rfl)
      replace g2 := T _ _ g2 (by decide) (Or.inr rfl)
      replace g3 := T _ _ g3 (by decide) (Or.inr rfl)
      replace g4 := T _ _ g4 (by decide) (Or.inr rfl)
      replace g5 := T _ _ g5 (by decide) (Or.inr rfl)
      replace g7 := T _ _ g7 (by decide) (Or.inr rfl)
      have g6 := g
      clear g T
      obtain ⟨lv, h, g, T⟩ := qa_iinc (n := 7) (z := (1 : Int32)) (q := 113) (qa_e rfl h) rfl (by decide) g7
      replace g0 := T _ _ g0 (by decide) (Or.inr rfl)
      replace g1 := T _ _ g1 (by decide) (Or.inr rfl)
      replace g2 := T _ _ g2 (by decide) (Or.inr rfl)
      replace g3 := T _ _ g3 (by decide) (Or.inr rfl)
      replace g4 := T _ _ g4 (by decide) (Or.inr rfl)
      replace g5 := T _ _ g5 (by decide) (Or.inr rfl)
      replace g6 := T _ _ g6 (by decide) (Or.inr rfl)
      replace g7 := g
      clear g T
      replace h := qa_goto (q := 76) (qa_e rfl h) rfl
      have e0 : mc_236_99_p76 N l1 l2 l3 l4 l5 σ s = .inl ((s.1 + (1 : Int32)), (s.2 + ((σ 103 s.1.toNatClampNeg) * (σ 108 (((4 : Int32) * s.1) + l5).toNatClampNeg)))) := by exact Eq.trans (if_pos c1) (rfl)
      rw [qa_whl e0]
      exact ih n hn (Nat.le_of_succ_le hF) ((s.1 + (1 : Int32)), (s.2 + ((σ 103 s.1.toNatClampNeg) * (σ 108 (((4 : Int32) * s.1) + l5).toNatClampNeg)))) _ _ hM es g0 g1 g2 g3 g4 g5 g6 g7 h
    · replace h := qa_ift (q := 116) (qa_e rfl h) rfl (qa_T_ge c1)
      have e0 : mc_236_99_p76 N l1 l2 l3 l4 l5 σ s = .inr (s.1, s.2) := by exact Eq.trans (if_neg c1) (rfl)
      rw [qa_whr e0]
      exact ⟨_, _, q61_mono f F _ _ _ _ _ _ _ _ (Nat.le_of_succ_le hF) h, hM, es, g0, g1, g2, g3, g4, g5, g6⟩
noncomputable def mc_236_99_p64 (N : Nat) (l1 : Int32) (l2 : Int32) (l3 : Int32) (σ : qa_S) (s : Int32 × Int32) : (Int32 × Int32) ⊕ (Int32 × Int32) :=
  if s.1 < (4 : Int32) then
    qa_in ((qa_wh (fun s => s) (mc_236_99_p76 N l1 l2 l3 s.2 s.1 σ) N ((0 : Int32), (0 : Int32)))) fun r2 =>
    .inl ((s.1 + (1 : Int32)), (if s.2 = (0 : Int32) then (0 : Int32) else (if (ma_185 (σ 104 l1.toNatClampNeg) s.1) = (0 : Int32) then (1 : Int32) else (if l2 = (0 : Int32) then (1 : Int32) else (if (ma_186_99 l1 (r2.2 / (l2 + l3)) σ) = (0 : Int32) then (1 : Int32) else (0 : Int32))))))
  else
    .inr (s.1, s.2)
theorem md_236_99_p64 {N F : Nat} {r : Option Value × q4_M} {l1 : Int32} {l2 : Int32} {l3 : Int32} {σ : qa_S} (hN : F ≤ N) : ∀ f n, f ≤ n → f ≤ F → ∀ (s : Int32 × Int32) (lv : List (Nat × Value)) (M : q4_M), qa_O M → qa_s M = σ → q4_get lv 0 = some (.ref 99) → q4_get lv 1 = some (.int (l1)) → q4_get lv 2 = some (.int (l2)) → q4_get lv 3 = some (.int (l3)) → q4_get lv 4 = some (.int (s.2)) → q4_get lv 5 = some (.int (s.1)) → q4_run f 236 64 lv [] M 0 0 = some r → ∃ lv M, q4_run F 236 166 lv [] M 0 0 = some r ∧ qa_O M ∧ qa_s M = σ ∧ q4_get lv 0 = some (.ref 99) ∧ q4_get lv 1 = some (.int (l1)) ∧ q4_get lv 2 = some (.int (l2)) ∧ q4_get lv 3 = some (.int (l3)) ∧ q4_get lv 4 = some (.int ((qa_wh (fun s => s) (mc_236_99_p64 N l1 l2 l3 σ) n s).2)) := by
  intro f
  induction f with
  | zero => intro n _ _ s lv M hM es _ _ _ _ _ _ h; cases h
  | succ f ih =>
    intro n hn hF s lv M hM es g0 g1 g2 g3 g4 g5 h
    obtain ⟨n, rfl⟩ : ∃ n1, n = n1 + 1 := ⟨n - 1, by omega⟩
    replace hn : f ≤ n := Nat.le_of_succ_le_succ hn
    have hN := Nat.le_trans (Nat.le_of_succ_le hF) hN
    replace h := qa_iload (n := 5) (q := 66) (qa_d rfl h) rfl g5
    replace h := qa_push (z := (4 : Int32)) (q := 67) (qa_e rfl h) rfl (by decide)
    by_cases c1 : s.1 < (4 : Int32)
    · replace h := qa_iff (q := 70) (qa_e rfl h) rfl (qa_F_ge c1)
      replace h := qa_push (z := (0 : Int32)) (q := 71) (qa_e rfl h) rfl (by decide)
      obtain ⟨lv, h, g, T⟩ := qa_istore (n := 6) (q := 73) (qa_e rfl h) rfl
      replace g0 := T _ _ g0 (by decide) (Or.inr rfl)
      replace g1 := T _ _ g1 (by decide) (Or.inr rfl)
      replace g2 := T _ _ g2 (by decide) (Or.inr rfl)
      replace g3 := T _ _ g3 (by decide) (Or.inr rfl)
      replace g4 := T _ _ g4 (by decide) (Or.inr rfl)
      replace g5 := T _ _ g5 (by decide) (Or.inr rfl)
      have g6 := g
      clear g T
      replace h := qa_push (z := (0 : Int32)) (q := 74) (qa_e rfl h) rfl (by decide)
      obtain ⟨lv, h, g, T⟩ := qa_istore (n := 7) (q := 76) (qa_e rfl h) rfl
      replace g0 := T _ _ g0 (by decide) (Or.inr rfl)
      replace g1 := T _ _ g1 (by decide) (Or.inr rfl)
      replace g2 := T _ _ g2 (by decide) (Or.inr rfl)
      replace g3 := T _ _ g3 (by decide) (Or.inr rfl)
      replace g4 := T _ _ g4 (by decide) (Or.inr rfl)
      replace g5 := T _ _ g5 (by decide) (Or.inr rfl)
      replace g6 := T _ _ g6 (by decide) (Or.inr rfl)
      have g7 := g
      clear g T
      obtain ⟨r2, er2⟩ : ∃ x, x = (qa_wh (fun s => s) (mc_236_99_p76 N l1 l2 l3 s.2 s.1 σ) N ((0 : Int32), (0 : Int32))) := ⟨_, rfl⟩
      have L := md_236_99_p76 (l1 := l1) (l2 := l2) (l3 := l3) (l4 := s.2) (l5 := s.1) (σ := σ) (F := f) (N := N) (r := r) hN f N hN (Nat.le_refl f) ((0 : Int32), (0 : Int32)) _ _ hM es g0 g1 g2 g3 g4 g5 g6 g7 h
      rw [← er2] at L
      obtain ⟨lv, M, h, hM, es, g0, g1, g2, g3, g4, g5, g6⟩ := L
      replace h := qa_iload (n := 4) (q := 118) (qa_e rfl h) rfl g4
      obtain ⟨lv, M, h, hM, es, g0, g1, g2, g3, g5⟩ : ∃ lv M, q4_run f 236 158 lv [.int ((if s.2 = (0 : Int32) then (0 : Int32) else (if (ma_185 (σ 104 l1.toNatClampNeg) s.1) = (0 : Int32) then (1 : Int32) else (if l2 = (0 : Int32) then (1 : Int32) else (if (ma_186_99 l1 (r2.2 / (l2 + l3)) σ) = (0 : Int32) then (1 : Int32) else (0 : Int32))))))] M 0 0 = some r ∧ qa_O M ∧ qa_s M = σ ∧ q4_get lv 0 = some (.ref 99) ∧ q4_get lv 1 = some (.int (l1)) ∧ q4_get lv 2 = some (.int (l2)) ∧ q4_get lv 3 = some (.int (l3)) ∧ q4_get lv 5 = some (.int (s.1)) := by
        by_cases c3 : s.2 = (0 : Int32)
        · replace h := qa_ict (q := 157) (qa_e rfl h) rfl (qa_T_eq c3)
          replace h := qa_push (z := (0 : Int32)) (q := 158) (qa_e rfl h) rfl (by decide)
          exact ⟨lv, M, (qa_hi1 c3 h), hM, es, g0, g1, g2, g3, g5⟩
        · replace h := qa_icf (q := 121) (qa_e rfl h) rfl (qa_F_eq c3)
          replace h := qa_aload (n := 0) (q := 122) (qa_e rfl h) rfl g0
          replace h := qa_gr (b := 104) (j := 6) (q := 125) (qa_e rfl h) rfl hM rfl (by decide)
          replace h := qa_iload (n := 1) (q := 126) (qa_e rfl h) rfl g1
          replace h := qa_iaload (jn := l1.toNatClampNeg) (q := 127) (qa_e rfl h) rfl hM es rfl
          replace h := qa_iload (n := 5) (q := 129) (qa_e rfl h) rfl g5
          obtain ⟨M, h, hM, es⟩ := qa_c1 (y := 185) (as := [.int ((σ 104 l1.toNatClampNeg)), .int (s.1)]) (rest := []) (i := .invokestatic 185) (q := 132) (qa_e rfl h) (Or.inr rfl) rfl rfl (by decide) rfl (fun r hc => mb_185 hM es hc)
          obtain ⟨lv, M, h, hM, es, g0, g1, g2, g3, g5⟩ : ∃ lv M, q4_run f 236 158 lv [.int ((if (ma_185 (σ 104 l1.toNatClampNeg) s.1) = (0 : Int32) then (1 : Int32) else (if l2 = (0 : Int32) then (1 : Int32) else (if (ma_186_99 l1 (r2.2 / (l2 + l3)) σ) = (0 : Int32) then (1 : Int32) else (0 : Int32)))))] M 0 0 = some r ∧ qa_O M ∧ qa_s M = σ ∧ q4_get lv 0 = some (.ref 99) ∧ q4_get lv 1 = some (.int (l1)) ∧ q4_get lv 2 = some (.int (l2)) ∧ q4_get lv 3 = some (.int (l3)) ∧ q4_get lv 5 = some (.int (s.1)) := by
            by_cases c4 : (ma_185 (σ 104 l1.toNatClampNeg) s.1) = (0 : Int32)
            · replace h := qa_ict (q := 153) (qa_e rfl h) rfl (qa_T_eq c4)
              replace h := qa_push (z := (1 : Int32)) (q := 154) (qa_e rfl h) rfl (by decide)
              replace h := qa_goto (q := 158) (qa_e rfl h) rfl
              exact ⟨lv, M, (qa_hi1 c4 h), hM, es, g0, g1, g2, g3, g5⟩
            · replace h := qa_icf (q := 135) (qa_e rfl h) rfl (qa_F_eq c4)
              replace h := qa_iload (n := 2) (q := 136) (qa_e rfl h) rfl g2
              obtain ⟨lv, M, h, hM, es, g0, g1, g2, g3, g5⟩ : ∃ lv M, q4_run f 236 158 lv [.int ((if l2 = (0 : Int32) then (1 : Int32) else (if (ma_186_99 l1 (r2.2 / (l2 + l3)) σ) = (0 : Int32) then (1 : Int32) else (0 : Int32))))] M 0 0 = some r ∧ qa_O M ∧ qa_s M = σ ∧ q4_get lv 0 = some (.ref 99) ∧ q4_get lv 1 = some (.int (l1)) ∧ q4_get lv 2 = some (.int (l2)) ∧ q4_get lv 3 = some (.int (l3)) ∧ q4_get lv 5 = some (.int (s.1)) := by
                by_cases c5 : l2 = (0 : Int32)
                · replace h := qa_ict (q := 153) (qa_e rfl h) rfl (qa_T_eq c5)
                  replace h := qa_push (z := (1 : Int32)) (q := 154) (qa_e rfl h) rfl (by decide)
                  replace h := qa_goto (q := 158) (qa_e rfl h) rfl
                  exact ⟨lv, M, (qa_hi1 c5 h), hM, es, g0, g1, g2, g3, g5⟩
                · replace h := qa_icf (q := 139) (qa_e rfl h) rfl (qa_F_eq c5)
                  replace h := qa_aload (n := 0) (q := 140) (qa_e rfl h) rfl g0
                  replace h := qa_iload (n := 1) (q := 141) (qa_e rfl h) rfl g1
                  replace h := qa_iload (n := 6) (q := 143) (qa_e rfl h) rfl g6
                  replace h := qa_iload (n := 2) (q := 144) (qa_e rfl h) rfl g2
                  replace h := qa_iload (n := 3) (q := 145) (qa_e rfl h) rfl g3
                  replace h := qa_iadd (q := 146) (qa_e rfl h) rfl
                  replace h := qa_idiv (q := 147) (qa_e rfl h) rfl
                  obtain ⟨M, h, hM, es⟩ := qa_c1 (y := 186) (as := [.ref 99, .int (l1), .int ((r2.2 / (l2 + l3)))]) (rest := []) (i := .invokevirtual 186) (q := 150) (qa_e rfl h) (Or.inl rfl) rfl rfl (by decide) rfl (fun r hc => mb_186_99 hM es hc)
                  obtain ⟨lv, M, h, hM, es, g0, g1, g2, g3, g5⟩ : ∃ lv M, q4_run f 236 158 lv [.int ((if (ma_186_99 l1 (r2.2 / (l2 + l3)) σ) = (0 : Int32) then (1 : Int32) else (0 : Int32)))] M 0 0 = some r ∧ qa_O M ∧ qa_s M = σ ∧ q4_get lv 0 = some (.ref 99) ∧ q4_get lv 1 = some (.int (l1)) ∧ q4_get lv 2 = some (.int (l2)) ∧ q4_get lv 3 = some (.int (l3)) ∧ q4_get lv 5 = some (.int (s.1)) := by
                    by_cases c6 : (ma_186_99 l1 (r2.2 / (l2 + l3)) σ) = (0 : Int32)
                    · replace h := qa_icf (q := 153) (qa_e rfl h) rfl (qa_F_ne c6)
                      replace h := qa_push (z := (1 : Int32)) (q := 154) (qa_e rfl h) rfl (by decide)
                      replace h := qa_goto (q := 158) (qa_e rfl h) rfl
                      exact ⟨lv, M, (qa_hi1 c6 h), hM, es, g0, g1, g2, g3, g5⟩
                    · replace h := qa_ict (q := 157) (qa_e rfl h) rfl (qa_T_ne c6)
                      replace h := qa_push (z := (0 : Int32)) (q := 158) (qa_e rfl h) rfl (by decide)
                      exact ⟨lv, M, (qa_hi0 c6 h), hM, es, g0, g1, g2, g3, g5⟩
                  exact ⟨lv, M, (qa_hi0 c5 h), hM, es, g0, g1, g2, g3, g5⟩
              exact ⟨lv, M, (qa_hi0 c4 h), hM, es, g0, g1, g2, g3, g5⟩
          exact ⟨lv, M, (qa_hi0 c3 h), hM, es, g0, g1, g2, g3, g5⟩
      obtain ⟨lv, h, g, T⟩ := qa_istore (n := 4) (q := 160) (qa_e rfl h) rfl
      replace g0 := T _ _ g0 (by decide) (Or.inr rfl)
      replace g1 := T _ _ g1 (by decide) (Or.inr rfl)
      replace g2 := T _ _ g2 (by decide) (Or.inr rfl)
      replace g3 := T _ _ g3 (by decide) (Or.inr rfl)
      replace g5 := T _ _ g5 (by decide) (Or.inr rfl)
      have g4 := g
      clear g T
      obtain ⟨lv, h, g, T⟩ := qa_iinc (n := 5) (z := (1 : Int32)) (q := 163) (qa_e rfl h) rfl (by decide) g5
      replace g0 := T _ _ g0 (by decide) (Or.inr rfl)
      replace g1 := T _ _ g1 (by decide) (Or.inr rfl)
      replace g2 := T _ _ g2 (by decide) (Or.inr rfl)
      replace g3 := T _ _ g3 (by decide) (Or.inr rfl)
      replace g4 := T _ _ g4 (by decide) (Or.inr rfl)
      replace g5 := g
      clear g T
      replace h := qa_goto (q := 64) (qa_e rfl h) rfl
      have e0 : mc_236_99_p64 N l1 l2 l3 σ s = .inl ((s.1 + (1 : Int32)), (if s.2 = (0 : Int32) then (0 : Int32) else (if (ma_185 (σ 104 l1.toNatClampNeg) s.1) = (0 : Int32) then (1 : Int32) else (if l2 = (0 : Int32) then (1 : Int32) else (if (ma_186_99 l1 (r2.2 / (l2 + l3)) σ) = (0 : Int32) then (1 : Int32) else (0 : Int32)))))) := by exact Eq.trans (if_pos c1) (Eq.trans (qa_ie er2) (rfl))
      rw [qa_whl e0]
      exact ih n hn (Nat.le_of_succ_le hF) ((s.1 + (1 : Int32)), (if s.2 = (0 : Int32) then (0 : Int32) else (if (ma_185 (σ 104 l1.toNatClampNeg) s.1) = (0 : Int32) then (1 : Int32) else (if l2 = (0 : Int32) then (1 : Int32) else (if (ma_186_99 l1 (r2.2 / (l2 + l3)) σ) = (0 : Int32) then (1 : Int32) else (0 : Int32)))))) _ _ hM es g0 g1 g2 g3 g4 g5 h
    · replace h := qa_ift (q := 166) (qa_e rfl h) rfl (qa_T_ge c1)
      have e0 : mc_236_99_p64 N l1 l2 l3 σ s = .inr (s.1, s.2) := by exact Eq.trans (if_neg c1) (rfl)
      rw [qa_whr e0]
      exact ⟨_, _, q61_mono f F _ _ _ _ _ _ _ _ (Nat.le_of_succ_le hF) h, hM, es, g0, g1, g2, g3, g4⟩
noncomputable def mc_236_99_p52 (N : Nat) (l1 : Int32) (l2 : Int32) (σ : qa_S) (s : Int32) : (Int32) ⊕ ((Int32) ⊕ (Int32)) :=
  if (99 : Int32) < s then
    .inr (.inr s)
  else
    qa_in ((qa_wh (fun s => s) (mc_236_99_p64 N l1 l2 s σ) N ((0 : Int32), (1 : Int32)))) fun r2 =>
    if r2.2 = (0 : Int32) then
      .inl (s + (1 : Int32))
    else
      .inr (.inl s)
theorem md_236_99_p52 {N F : Nat} {r : Option Value × q4_M} {l1 : Int32} {l2 : Int32} {σ : qa_S} (hN : F ≤ N) : ∀ f n, f ≤ n → f ≤ F → ∀ (s : Int32) (lv : List (Nat × Value)) (M : q4_M), qa_O M → qa_s M = σ → q4_get lv 0 = some (.ref 99) → q4_get lv 1 = some (.int (l1)) → q4_get lv 2 = some (.int (l2)) → q4_get lv 3 = some (.int (s)) → q4_run f 236 52 lv [] M 0 0 = some r → (∀ b, (qa_wh (fun s => .inr s) (mc_236_99_p52 N l1 l2 σ) n s) = .inl b → r.1 = some (.int (b)) ∧ qa_O r.2 ∧ qa_s r.2 = σ) ∧ (∀ b, (qa_wh (fun s => .inr s) (mc_236_99_p52 N l1 l2 σ) n s) = .inr b → ∃ lv M, q4_run F 236 179 lv [] M 0 0 = some r ∧ qa_O M ∧ qa_s M = σ) := by
  intro f
  induction f with
  | zero => intro n _ _ s lv M hM es _ _ _ _ h; cases h
  | succ f ih =>
    intro n hn hF s lv M hM es g0 g1 g2 g3 h
    obtain ⟨n, rfl⟩ : ∃ n1, n = n1 + 1 := ⟨n - 1, by omega⟩
    replace hn : f ≤ n := Nat.le_of_succ_le_succ hn
    have hN := Nat.le_trans (Nat.le_of_succ_le hF) hN
    replace h := qa_iload (n := 3) (q := 53) (qa_d rfl h) rfl g3
    replace h := qa_push (z := (99 : Int32)) (q := 55) (qa_e rfl h) rfl (by decide)
    by_cases c1 : (99 : Int32) < s
    · replace h := qa_ift (q := 179) (qa_e rfl h) rfl (qa_T_gt c1)
      have e0 : mc_236_99_p52 N l1 l2 σ s = .inr (.inr s) := by exact Eq.trans (if_pos c1) (rfl)
      rw [qa_whr e0]
      exact ⟨fun b hb => (nomatch hb), fun b hb => (by have e := Sum.inr.inj hb; subst e; exact ⟨_, _, q61_mono f F _ _ _ _ _ _ _ _ (Nat.le_of_succ_le hF) h, hM, es⟩)⟩
    · replace h := qa_iff (q := 58) (qa_e rfl h) rfl (qa_F_gt c1)
      replace h := qa_push (z := (1 : Int32)) (q := 59) (qa_e rfl h) rfl (by decide)
      obtain ⟨lv, h, g, T⟩ := qa_istore (n := 4) (q := 61) (qa_e rfl h) rfl
      replace g0 := T _ _ g0 (by decide) (Or.inr rfl)
      replace g1 := T _ _ g1 (by decide) (Or.inr rfl)
      replace g2 := T _ _ g2 (by decide) (Or.inr rfl)
      replace g3 := T _ _ g3 (by decide) (Or.inr rfl)
      have g4 := g
      clear g T
      replace h := qa_push (z := (0 : Int32)) (q := 62) (qa_e rfl h) rfl (by decide)
      obtain ⟨lv, h, g, T⟩ := qa_istore (n := 5) (q := 64) (qa_e rfl h) rfl
      replace g0 := T _ _ g0 (by decide) (Or.inr rfl)
      replace g1 := T _ _ g1 (by decide) (Or.inr rfl)
      replace g2 := T _ _ g2 (by decide) (Or.inr rfl)
      replace g3 := T _ _ g3 (by decide) (Or.inr rfl)
      replace g4 := T _ _ g4 (by decide) (Or.inr rfl)
      have g5 := g
      clear g T
      obtain ⟨r2, er2⟩ : ∃ x, x = (qa_wh (fun s => s) (mc_236_99_p64 N l1 l2 s σ) N ((0 : Int32), (1 : Int32))) := ⟨_, rfl⟩
      have L := md_236_99_p64 (l1 := l1) (l2 := l2) (l3 := s) (σ := σ) (F := f) (N := N) (r := r) hN f N hN (Nat.le_refl f) ((0 : Int32), (1 : Int32)) _ _ hM es g0 g1 g2 g3 g4 g5 h
      rw [← er2] at L
      obtain ⟨lv, M, h, hM, es, g0, g1, g2, g3, g4⟩ := L
      replace h := qa_iload (n := 4) (q := 168) (qa_e rfl h) rfl g4
      by_cases c3 : r2.2 = (0 : Int32)
      · replace h := qa_ict (q := 173) (qa_e rfl h) rfl (qa_T_eq c3)
        obtain ⟨lv, h, g, T⟩ := qa_iinc (n := 3) (z := (1 : Int32)) (q := 176) (qa_e rfl h) rfl (by decide) g3
        replace g0 := T _ _ g0 (by decide) (Or.inr rfl)
        replace g1 := T _ _ g1 (by decide) (Or.inr rfl)
        replace g2 := T _ _ g2 (by decide) (Or.inr rfl)
        replace g3 := g
        clear g T
        replace h := qa_goto (q := 52) (qa_e rfl h) rfl
        have e0 : mc_236_99_p52 N l1 l2 σ s = .inl (s + (1 : Int32)) := by exact Eq.trans (if_neg c1) (Eq.trans (qa_ie er2) (Eq.trans (if_pos c3) (rfl)))
        rw [qa_whl e0]
        exact ih n hn (Nat.le_of_succ_le hF) (s + (1 : Int32)) _ _ hM es g0 g1 g2 g3 h
      · replace h := qa_icf (q := 171) (qa_e rfl h) rfl (qa_F_eq c3)
        replace h := qa_iload (n := 3) (q := 172) (qa_e rfl h) rfl g3
        have er := qa_ri (qa_e rfl h)
        subst er
        have e0 : mc_236_99_p52 N l1 l2 σ s = .inr (.inl s) := by exact Eq.trans (if_neg c1) (Eq.trans (qa_ie er2) (Eq.trans (if_neg c3) (rfl)))
        rw [qa_whr e0]
        exact ⟨fun b hb => (by have e := Sum.inl.inj hb; subst e; exact ⟨rfl, hM, es⟩), fun b hb => nomatch hb⟩
/-- BuriedBySevensModel, diluted, (I)I -/
noncomputable def ma_236_99 (N : Nat) (a1 : Int32) (σ : qa_S) : Int32 × qa_S :=
  qa_in (qa_u σ 99 9 (0 : Int32)) fun m1 =>
  if (ma_171_99 a1 m1) = (0 : Int32) then
    qa_in ((ma_152_99 (-1 : Int32) m1)) fun r3 =>
    (r3.1, r3.2)
  else
    qa_in ((ma_181_99 N m1)) fun m4 =>
    qa_in ((qa_wh (fun s => s) (mc_236_99_p27 N a1 m4) N ((0 : Int32), (0 : Int32)))) fun r5 =>
    qa_in ((qa_wh (fun s => .inr s) (mc_236_99_p52 N a1 r5.2 m4) N (0 : Int32))) fun r6 =>
    qa_cs r6
      (fun b7 =>
        (b7, m4))
      (fun b7 =>
        ((-9 : Int32), m4))
theorem mb_236_99 {f N : Nat} (hN : f ≤ N) {M : q4_M} {r : Option Value × q4_M} {σ : qa_S} {a1 : Int32} (hM : qa_O M) (es : qa_s M = σ) (h : q4_run f 236 0 (lv_args 0 [.ref 99, .int (a1)]) [] M 0 0 = some r) : r.1 = some (.int ((ma_236_99 N a1 σ).1)) ∧ qa_O r.2 ∧ qa_s r.2 = (ma_236_99 N a1 σ).2 := by
  obtain ⟨lv, el⟩ : ∃ l, l = lv_args 0 [.ref 99, .int (a1)] := ⟨_, rfl⟩
  have g0 : q4_get lv 0 = some (.ref 99) := by rw [el]; rfl
  have g1 : q4_get lv 1 = some (.int (a1)) := by rw [el]; rfl
  rw [← el] at h
  clear el
  replace h := qa_aload (n := 0) (q := 1) (qa_e rfl h) rfl g0
  replace h := qa_push (z := (0 : Int32)) (q := 2) (qa_e rfl h) rfl (by decide)
  obtain ⟨m1, em1⟩ : ∃ x, x = qa_u σ 99 9 (0 : Int32) := ⟨_, rfl⟩
  obtain ⟨M, h, hM, es⟩ := qa_pf (j := 9) (q := 5) (qa_e rfl h) rfl hM es rfl (by decide)
  rw [← em1] at es
  replace h := qa_aload (n := 0) (q := 6) (qa_e rfl h) rfl g0
  replace h := qa_iload (n := 1) (q := 7) (qa_e rfl h) rfl g1
  obtain ⟨M, h, hM, es⟩ := qa_c1 (y := 171) (as := [.ref 99, .int (a1)]) (rest := []) (i := .invokevirtual 171) (q := 10) (qa_e rfl h) (Or.inl rfl) rfl rfl (by decide) rfl (fun r hc => mb_171_99 hM es hc)
  by_cases c2 : (ma_171_99 a1 m1) = (0 : Int32)
  · replace h := qa_icf (q := 13) (qa_e rfl h) rfl (qa_F_ne c2)
    replace h := qa_aload (n := 0) (q := 14) (qa_e rfl h) rfl g0
    replace h := qa_push (z := (-1 : Int32)) (q := 15) (qa_e rfl h) rfl (by decide)
    obtain ⟨r3, er3⟩ : ∃ x, x = (ma_152_99 (-1 : Int32) m1) := ⟨_, rfl⟩
    obtain ⟨M, h, hM, es⟩ := qa_c1 (y := 152) (as := [.ref 99, .int ((-1 : Int32))]) (rest := []) (i := .invokevirtual 152) (q := 18) (qa_e rfl h) (Or.inl rfl) rfl rfl (by decide) rfl (fun r hc => mb_152_99 hM es hc)
    rw [← er3] at h es
    have er := qa_ri (qa_e rfl h)
    subst er
    have e0 : ma_236_99 N a1 σ = (r3.1, r3.2) := by exact Eq.trans (qa_ie em1) (Eq.trans (if_pos c2) (Eq.trans (qa_ie er3) (rfl)))
    rw [e0]
    exact ⟨rfl, hM, es⟩
  · replace h := qa_ict (q := 19) (qa_e rfl h) rfl (qa_T_ne c2)
    replace h := qa_aload (n := 0) (q := 20) (qa_e rfl h) rfl g0
    obtain ⟨m4, em4⟩ : ∃ x, x = (ma_181_99 N m1) := ⟨_, rfl⟩
    obtain ⟨M, h, hM, es⟩ := qa_c0 (y := 181) (as := [.ref 99]) (rest := []) (i := .invokevirtual 181) (q := 23) (qa_e rfl h) (Or.inl rfl) rfl rfl (by decide) rfl (fun r hc => mb_181_99 hN hM es hc)
    rw [← em4] at es
    replace h := qa_push (z := (0 : Int32)) (q := 24) (qa_e rfl h) rfl (by decide)
    obtain ⟨lv, h, g, T⟩ := qa_istore (n := 2) (q := 25) (qa_e rfl h) rfl
    replace g0 := T _ _ g0 (by decide) (Or.inr rfl)
    replace g1 := T _ _ g1 (by decide) (Or.inr rfl)
    have g2 := g
    clear g T
    replace h := qa_push (z := (0 : Int32)) (q := 26) (qa_e rfl h) rfl (by decide)
    obtain ⟨lv, h, g, T⟩ := qa_istore (n := 3) (q := 27) (qa_e rfl h) rfl
    replace g0 := T _ _ g0 (by decide) (Or.inr rfl)
    replace g1 := T _ _ g1 (by decide) (Or.inr rfl)
    replace g2 := T _ _ g2 (by decide) (Or.inr rfl)
    have g3 := g
    clear g T
    obtain ⟨r5, er5⟩ : ∃ x, x = (qa_wh (fun s => s) (mc_236_99_p27 N a1 m4) N ((0 : Int32), (0 : Int32))) := ⟨_, rfl⟩
    have L := md_236_99_p27 (l1 := a1) (σ := m4) (F := f) (N := N) (r := r) hN f N hN (Nat.le_refl f) ((0 : Int32), (0 : Int32)) _ _ hM es g0 g1 g2 g3 h
    rw [← er5] at L
    obtain ⟨lv, M, h, hM, es, g0, g1, g2⟩ := L
    replace h := qa_push (z := (0 : Int32)) (q := 51) (qa_e rfl h) rfl (by decide)
    obtain ⟨lv, h, g, T⟩ := qa_istore (n := 3) (q := 52) (qa_e rfl h) rfl
    replace g0 := T _ _ g0 (by decide) (Or.inr rfl)
    replace g1 := T _ _ g1 (by decide) (Or.inr rfl)
    replace g2 := T _ _ g2 (by decide) (Or.inr rfl)
    have g3 := g
    clear g T
    obtain ⟨r6, er6⟩ : ∃ x, x = (qa_wh (fun s => .inr s) (mc_236_99_p52 N a1 r5.2 m4) N (0 : Int32)) := ⟨_, rfl⟩
    have L := md_236_99_p52 (l1 := a1) (l2 := r5.2) (σ := m4) (F := f) (N := N) (r := r) hN f N hN (Nat.le_refl f) (0 : Int32) _ _ hM es g0 g1 g2 g3 h
    rw [← er6] at L
    rcases qr6 : r6 with b7 | b7
    · obtain ⟨h, hM, es⟩ := L.1 b7 qr6
      have e0 : ma_236_99 N a1 σ = (b7, m4) := by exact Eq.trans (qa_ie em1) (Eq.trans (if_neg c2) (Eq.trans (qa_ie em4) (Eq.trans (qa_ie er5) (Eq.trans (qa_ie er6) (Eq.trans (qa_csl qr6 _ _) (rfl))))))
      rw [e0]
      exact ⟨h, hM, es⟩
    · obtain ⟨lv, M, h, hM, es⟩ := L.2 b7 qr6
      replace h := qa_push (z := (-9 : Int32)) (q := 181) (qa_e rfl h) rfl (by decide)
      have er := qa_ri (qa_e rfl h)
      subst er
      have e0 : ma_236_99 N a1 σ = ((-9 : Int32), m4) := by exact Eq.trans (qa_ie em1) (Eq.trans (if_neg c2) (Eq.trans (qa_ie em4) (Eq.trans (qa_ie er5) (Eq.trans (qa_ie er6) (Eq.trans (qa_csr qr6 _ _) (rfl))))))
      rw [e0]
      exact ⟨rfl, hM, es⟩
noncomputable def mc_237_99_p55 (N : Nat) (l1 : Int32) (l2 : Int32) (l3 : Int32) (l4 : Int32) (σ : qa_S) (s : Int32 × Int32) : (Int32 × Int32) ⊕ (Int32 × Int32) :=
  if s.1 < (4 : Int32) then
    .inl ((s.1 + (1 : Int32)), (((100 : Int32) * s.2) + (if (ma_185 (σ 104 l1.toNatClampNeg) s.1) = (0 : Int32) then (0 : Int32) else (ma_186_99 l1 (σ 111 s.1.toNatClampNeg) σ))))
  else
    .inr (s.1, s.2)
theorem md_237_99_p55 {N F : Nat} {r : Option Value × q4_M} {l1 : Int32} {l2 : Int32} {l3 : Int32} {l4 : Int32} {σ : qa_S} (hN : F ≤ N) : ∀ f n, f ≤ n → f ≤ F → ∀ (s : Int32 × Int32) (lv : List (Nat × Value)) (M : q4_M), qa_O M → qa_s M = σ → q4_get lv 0 = some (.ref 99) → q4_get lv 1 = some (.int (l1)) → q4_get lv 2 = some (.int (l2)) → q4_get lv 3 = some (.int (l3)) → q4_get lv 4 = some (.int (l4)) → q4_get lv 5 = some (.int (s.2)) → q4_get lv 6 = some (.int (s.1)) → q4_run f 237 55 lv [] M 0 0 = some r → ∃ lv M, q4_run F 237 105 lv [] M 0 0 = some r ∧ qa_O M ∧ qa_s M = σ ∧ q4_get lv 0 = some (.ref 99) ∧ q4_get lv 1 = some (.int (l1)) ∧ q4_get lv 2 = some (.int (l2)) ∧ q4_get lv 3 = some (.int (l3)) ∧ q4_get lv 4 = some (.int (l4)) ∧ q4_get lv 5 = some (.int ((qa_wh (fun s => s) (mc_237_99_p55 N l1 l2 l3 l4 σ) n s).2)) := by
  intro f
  induction f with
  | zero => intro n _ _ s lv M hM es _ _ _ _ _ _ _ h; cases h
  | succ f ih =>
    intro n hn hF s lv M hM es g0 g1 g2 g3 g4 g5 g6 h
    obtain ⟨n, rfl⟩ : ∃ n1, n = n1 + 1 := ⟨n - 1, by omega⟩
    replace hn : f ≤ n := Nat.le_of_succ_le_succ hn
    have hN := Nat.le_trans (Nat.le_of_succ_le hF) hN
    replace h := qa_iload (n := 6) (q := 57) (qa_d rfl h) rfl g6
    replace h := qa_push (z := (4 : Int32)) (q := 58) (qa_e rfl h) rfl (by decide)
    by_cases c1 : s.1 < (4 : Int32)
    · replace h := qa_iff (q := 61) (qa_e rfl h) rfl (qa_F_ge c1)
      replace h := qa_push (z := (100 : Int32)) (q := 63) (qa_e rfl h) rfl (by decide)
      replace h := qa_iload (n := 5) (q := 65) (qa_e rfl h) rfl g5
      replace h := qa_imul (q := 66) (qa_e rfl h) rfl
      replace h := qa_aload (n := 0) (q := 67) (qa_e rfl h) rfl g0
      replace h := qa_gr (b := 104) (j := 6) (q := 70) (qa_e rfl h) rfl hM rfl (by decide)
      replace h := qa_iload (n := 1) (q := 71) (qa_e rfl h) rfl g1
      replace h := qa_iaload (jn := l1.toNatClampNeg) (q := 72) (qa_e rfl h) rfl hM es rfl
      replace h := qa_iload (n := 6) (q := 74) (qa_e rfl h) rfl g6
      obtain ⟨M, h, hM, es⟩ := qa_c1 (y := 185) (as := [.int ((σ 104 l1.toNatClampNeg)), .int (s.1)]) (rest := [.int (((100 : Int32) * s.2))]) (i := .invokestatic 185) (q := 77) (qa_e rfl h) (Or.inr rfl) rfl rfl (by decide) rfl (fun r hc => mb_185 hM es hc)
      obtain ⟨lv, M, h, hM, es, g0, g1, g2, g3, g4, g6⟩ : ∃ lv M, q4_run f 237 96 lv [.int ((if (ma_185 (σ 104 l1.toNatClampNeg) s.1) = (0 : Int32) then (0 : Int32) else (ma_186_99 l1 (σ 111 s.1.toNatClampNeg) σ))), .int (((100 : Int32) * s.2))] M 0 0 = some r ∧ qa_O M ∧ qa_s M = σ ∧ q4_get lv 0 = some (.ref 99) ∧ q4_get lv 1 = some (.int (l1)) ∧ q4_get lv 2 = some (.int (l2)) ∧ q4_get lv 3 = some (.int (l3)) ∧ q4_get lv 4 = some (.int (l4)) ∧ q4_get lv 6 = some (.int (s.1)) := by
        by_cases c2 : (ma_185 (σ 104 l1.toNatClampNeg) s.1) = (0 : Int32)
        · replace h := qa_ict (q := 95) (qa_e rfl h) rfl (qa_T_eq c2)
          replace h := qa_push (z := (0 : Int32)) (q := 96) (qa_e rfl h) rfl (by decide)
          exact ⟨lv, M, (qa_hi1 c2 h), hM, es, g0, g1, g2, g3, g4, g6⟩
        · replace h := qa_icf (q := 80) (qa_e rfl h) rfl (qa_F_eq c2)
          replace h := qa_aload (n := 0) (q := 81) (qa_e rfl h) rfl g0
          replace h := qa_iload (n := 1) (q := 82) (qa_e rfl h) rfl g1
          replace h := qa_aload (n := 0) (q := 83) (qa_e rfl h) rfl g0
          replace h := qa_gr (b := 111) (j := 14) (q := 86) (qa_e rfl h) rfl hM rfl (by decide)
          replace h := qa_iload (n := 6) (q := 88) (qa_e rfl h) rfl g6
          replace h := qa_iaload (jn := s.1.toNatClampNeg) (q := 89) (qa_e rfl h) rfl hM es rfl
          obtain ⟨M, h, hM, es⟩ := qa_c1 (y := 186) (as := [.ref 99, .int (l1), .int ((σ 111 s.1.toNatClampNeg))]) (rest := [.int (((100 : Int32) * s.2))]) (i := .invokevirtual 186) (q := 92) (qa_e rfl h) (Or.inl rfl) rfl rfl (by decide) rfl (fun r hc => mb_186_99 hM es hc)
          replace h := qa_goto (q := 96) (qa_e rfl h) rfl
          exact ⟨lv, M, (qa_hi0 c2 h), hM, es, g0, g1, g2, g3, g4, g6⟩
      replace h := qa_iadd (q := 97) (qa_e rfl h) rfl
      obtain ⟨lv, h, g, T⟩ := qa_istore (n := 5) (q := 99) (qa_e rfl h) rfl
      replace g0 := T _ _ g0 (by decide) (Or.inr rfl)
      replace g1 := T _ _ g1 (by decide) (Or.inr rfl)
      replace g2 := T _ _ g2 (by decide) (Or.inr rfl)
      replace g3 := T _ _ g3 (by decide) (Or.inr rfl)
      replace g4 := T _ _ g4 (by decide) (Or.inr rfl)
      replace g6 := T _ _ g6 (by decide) (Or.inr rfl)
      have g5 := g
      clear g T
      obtain ⟨lv, h, g, T⟩ := qa_iinc (n := 6) (z := (1 : Int32)) (q := 102) (qa_e rfl h) rfl (by decide) g6
      replace g0 := T _ _ g0 (by decide) (Or.inr rfl)
      replace g1 := T _ _ g1 (by decide) (Or.inr rfl)
      replace g2 := T _ _ g2 (by decide) (Or.inr rfl)
      replace g3 := T _ _ g3 (by decide) (Or.inr rfl)
      replace g4 := T _ _ g4 (by decide) (Or.inr rfl)
      replace g5 := T _ _ g5 (by decide) (Or.inr rfl)
      replace g6 := g
      clear g T
      replace h := qa_goto (q := 55) (qa_e rfl h) rfl
      have e0 : mc_237_99_p55 N l1 l2 l3 l4 σ s = .inl ((s.1 + (1 : Int32)), (((100 : Int32) * s.2) + (if (ma_185 (σ 104 l1.toNatClampNeg) s.1) = (0 : Int32) then (0 : Int32) else (ma_186_99 l1 (σ 111 s.1.toNatClampNeg) σ)))) := by exact Eq.trans (if_pos c1) (rfl)
      rw [qa_whl e0]
      exact ih n hn (Nat.le_of_succ_le hF) ((s.1 + (1 : Int32)), (((100 : Int32) * s.2) + (if (ma_185 (σ 104 l1.toNatClampNeg) s.1) = (0 : Int32) then (0 : Int32) else (ma_186_99 l1 (σ 111 s.1.toNatClampNeg) σ)))) _ _ hM es g0 g1 g2 g3 g4 g5 g6 h
    · replace h := qa_ift (q := 105) (qa_e rfl h) rfl (qa_T_ge c1)
      have e0 : mc_237_99_p55 N l1 l2 l3 l4 σ s = .inr (s.1, s.2) := by exact Eq.trans (if_neg c1) (rfl)
      rw [qa_whr e0]
      exact ⟨_, _, q61_mono f F _ _ _ _ _ _ _ _ (Nat.le_of_succ_le hF) h, hM, es, g0, g1, g2, g3, g4, g5⟩
noncomputable def mc_237_99_p111 (N : Nat) (l1 : Int32) (l2 : Int32) (l3 : Int32) (l4 : Int32) (l5 : Int32) (σ : qa_S) (s : Int32 × Int32) : (Int32 × Int32) ⊕ (Int32 × Int32) :=
  if s.1 < l3 then
    if s.2 = (0 : Int32) then
      .inr (s.1, s.2)
    else
      .inl ((s.1 + (1 : Int32)), (if (σ 123 s.1.toNatClampNeg) = l5 then (0 : Int32) else (1 : Int32)))
  else
    .inr (s.1, s.2)
theorem md_237_99_p111 {N F : Nat} {r : Option Value × q4_M} {l1 : Int32} {l2 : Int32} {l3 : Int32} {l4 : Int32} {l5 : Int32} {σ : qa_S} (hN : F ≤ N) : ∀ f n, f ≤ n → f ≤ F → ∀ (s : Int32 × Int32) (lv : List (Nat × Value)) (M : q4_M), qa_O M → qa_s M = σ → q4_get lv 0 = some (.ref 99) → q4_get lv 1 = some (.int (l1)) → q4_get lv 2 = some (.int (l2)) → q4_get lv 3 = some (.int (l3)) → q4_get lv 4 = some (.int (l4)) → q4_get lv 5 = some (.int (l5)) → q4_get lv 6 = some (.int (s.2)) → q4_get lv 7 = some (.int (s.1)) → q4_run f 237 111 lv [] M 0 0 = some r → ∃ lv M, q4_run F 237 147 lv [] M 0 0 = some r ∧ qa_O M ∧ qa_s M = σ ∧ q4_get lv 0 = some (.ref 99) ∧ q4_get lv 1 = some (.int (l1)) ∧ q4_get lv 2 = some (.int (l2)) ∧ q4_get lv 3 = some (.int (l3)) ∧ q4_get lv 4 = some (.int (l4)) ∧ q4_get lv 5 = some (.int (l5)) ∧ q4_get lv 6 = some (.int ((qa_wh (fun s => s) (mc_237_99_p111 N l1 l2 l3 l4 l5 σ) n s).2)) := by
  intro f
  induction f with
  | zero => intro n _ _ s lv M hM es _ _ _ _ _ _ _ _ h; cases h
  | succ f ih =>
    intro n hn hF s lv M hM es g0 g1 g2 g3 g4 g5 g6 g7 h
    obtain ⟨n, rfl⟩ : ∃ n1, n = n1 + 1 := ⟨n - 1, by omega⟩
    replace hn : f ≤ n := Nat.le_of_succ_le_succ hn
    have hN := Nat.le_trans (Nat.le_of_succ_le hF) hN
    replace h := qa_iload (n := 7) (q := 113) (qa_d rfl h) rfl g7
    replace h := qa_iload (n := 3) (q := 114) (qa_e rfl h) rfl g3
    by_cases c1 : s.1 < l3
    · replace h := qa_iff (q := 117) (qa_e rfl h) rfl (qa_F_ge c1)
      replace h := qa_iload (n := 6) (q := 119) (qa_e rfl h) rfl g6
      by_cases c2 : s.2 = (0 : Int32)
      · replace h := qa_ict (q := 147) (qa_e rfl h) rfl (qa_T_eq c2)
        have e0 : mc_237_99_p111 N l1 l2 l3 l4 l5 σ s = .inr (s.1, s.2) := by exact Eq.trans (if_pos c1) (Eq.trans (if_pos c2) (rfl))
        rw [qa_whr e0]
        exact ⟨_, _, q61_mono f F _ _ _ _ _ _ _ _ (Nat.le_of_succ_le hF) h, hM, es, g0, g1, g2, g3, g4, g5, g6⟩
      · replace h := qa_icf (q := 122) (qa_e rfl h) rfl (qa_F_eq c2)
        replace h := qa_aload (n := 0) (q := 123) (qa_e rfl h) rfl g0
        replace h := qa_gr (b := 123) (j := 36) (q := 126) (qa_e rfl h) rfl hM rfl (by decide)
        replace h := qa_iload (n := 7) (q := 128) (qa_e rfl h) rfl g7
        replace h := qa_iaload (jn := s.1.toNatClampNeg) (q := 129) (qa_e rfl h) rfl hM es rfl
        replace h := qa_iload (n := 5) (q := 131) (qa_e rfl h) rfl g5
        obtain ⟨lv, M, h, hM, es, g0, g1, g2, g3, g4, g5, g7⟩ : ∃ lv M, q4_run f 237 139 lv [.int ((if (σ 123 s.1.toNatClampNeg) = l5 then (0 : Int32) else (1 : Int32)))] M 0 0 = some r ∧ qa_O M ∧ qa_s M = σ ∧ q4_get lv 0 = some (.ref 99) ∧ q4_get lv 1 = some (.int (l1)) ∧ q4_get lv 2 = some (.int (l2)) ∧ q4_get lv 3 = some (.int (l3)) ∧ q4_get lv 4 = some (.int (l4)) ∧ q4_get lv 5 = some (.int (l5)) ∧ q4_get lv 7 = some (.int (s.1)) := by
          by_cases c3 : (σ 123 s.1.toNatClampNeg) = l5
          · replace h := qa_ift (q := 138) (qa_e rfl h) rfl (qa_T_eq c3)
            replace h := qa_push (z := (0 : Int32)) (q := 139) (qa_e rfl h) rfl (by decide)
            exact ⟨lv, M, (qa_hi1 c3 h), hM, es, g0, g1, g2, g3, g4, g5, g7⟩
          · replace h := qa_iff (q := 134) (qa_e rfl h) rfl (qa_F_eq c3)
            replace h := qa_push (z := (1 : Int32)) (q := 135) (qa_e rfl h) rfl (by decide)
            replace h := qa_goto (q := 139) (qa_e rfl h) rfl
            exact ⟨lv, M, (qa_hi0 c3 h), hM, es, g0, g1, g2, g3, g4, g5, g7⟩
        obtain ⟨lv, h, g, T⟩ := qa_istore (n := 6) (q := 141) (qa_e rfl h) rfl
        replace g0 := T _ _ g0 (by decide) (Or.inr rfl)
        replace g1 := T _ _ g1 (by decide) (Or.inr rfl)
        replace g2 := T _ _ g2 (by decide) (Or.inr rfl)
        replace g3 := T _ _ g3 (by decide) (Or.inr rfl)
        replace g4 := T _ _ g4 (by decide) (Or.inr rfl)
        replace g5 := T _ _ g5 (by decide) (Or.inr rfl)
        replace g7 := T _ _ g7 (by decide) (Or.inr rfl)
        have g6 := g
        clear g T
        obtain ⟨lv, h, g, T⟩ := qa_iinc (n := 7) (z := (1 : Int32)) (q := 144) (qa_e rfl h) rfl (by decide) g7
        replace g0 := T _ _ g0 (by decide) (Or.inr rfl)
        replace g1 := T _ _ g1 (by decide) (Or.inr rfl)
        replace g2 := T _ _ g2 (by decide) (Or.inr rfl)
        replace g3 := T _ _ g3 (by decide) (Or.inr rfl)
        replace g4 := T _ _ g4 (by decide) (Or.inr rfl)
        replace g5 := T _ _ g5 (by decide) (Or.inr rfl)
        replace g6 := T _ _ g6 (by decide) (Or.inr rfl)
        replace g7 := g
        clear g T
        replace h := qa_goto (q := 111) (qa_e rfl h) rfl
        have e0 : mc_237_99_p111 N l1 l2 l3 l4 l5 σ s = .inl ((s.1 + (1 : Int32)), (if (σ 123 s.1.toNatClampNeg) = l5 then (0 : Int32) else (1 : Int32))) := by exact Eq.trans (if_pos c1) (Eq.trans (if_neg c2) (rfl))
        rw [qa_whl e0]
        exact ih n hn (Nat.le_of_succ_le hF) ((s.1 + (1 : Int32)), (if (σ 123 s.1.toNatClampNeg) = l5 then (0 : Int32) else (1 : Int32))) _ _ hM es g0 g1 g2 g3 g4 g5 g6 g7 h
    · replace h := qa_ift (q := 147) (qa_e rfl h) rfl (qa_T_ge c1)
      have e0 : mc_237_99_p111 N l1 l2 l3 l4 l5 σ s = .inr (s.1, s.2) := by exact Eq.trans (if_neg c1) (rfl)
      rw [qa_whr e0]
      exact ⟨_, _, q61_mono f F _ _ _ _ _ _ _ _ (Nat.le_of_succ_le hF) h, hM, es, g0, g1, g2, g3, g4, g5, g6⟩
noncomputable def mc_237_99_p33 (N : Nat) (l1 : Int32) (l2 : Int32) (s : Int32 × Int32 × qa_S) : (Int32 × Int32 × qa_S) ⊕ (Int32 × Int32 × qa_S) :=
  if s.1 < l2 then
    qa_in ((ma_196_99 N s.1 s.2.2)) fun m2 =>
    qa_in ((ma_183_99 N m2)) fun m3 =>
    qa_in ((qa_wh (fun s => s) (mc_237_99_p55 N l1 l2 s.2.1 s.1 m3) N ((0 : Int32), (0 : Int32)))) fun r4 =>
    qa_in ((qa_wh (fun s => s) (mc_237_99_p111 N l1 l2 s.2.1 s.1 r4.2 m3) N ((0 : Int32), (1 : Int32)))) fun r5 =>
    qa_in (qa_u m3 123 s.2.1.toNatClampNeg r4.2) fun m7 =>
    qa_in ((if r5.2 = (0 : Int32) then m3 else m7)) fun m8 =>
    .inl ((s.1 + (1 : Int32)), (if r5.2 = (0 : Int32) then s.2.1 else (s.2.1 + (1 : Int32))), m8)
  else
    .inr (s.1, s.2.1, s.2.2)
theorem md_237_99_p33 {N F : Nat} {r : Option Value × q4_M} {l1 : Int32} {l2 : Int32} (hN : F ≤ N) : ∀ f n, f ≤ n → f ≤ F → ∀ (s : Int32 × Int32 × qa_S) (lv : List (Nat × Value)) (M : q4_M), qa_O M → qa_s M = s.2.2 → q4_get lv 0 = some (.ref 99) → q4_get lv 1 = some (.int (l1)) → q4_get lv 2 = some (.int (l2)) → q4_get lv 3 = some (.int (s.2.1)) → q4_get lv 4 = some (.int (s.1)) → q4_run f 237 33 lv [] M 0 0 = some r → ∃ lv M, q4_run F 237 169 lv [] M 0 0 = some r ∧ qa_O M ∧ qa_s M = (qa_wh (fun s => s) (mc_237_99_p33 N l1 l2) n s).2.2 ∧ q4_get lv 3 = some (.int ((qa_wh (fun s => s) (mc_237_99_p33 N l1 l2) n s).2.1)) := by
  intro f
  induction f with
  | zero => intro n _ _ s lv M hM es _ _ _ _ _ h; cases h
  | succ f ih =>
    intro n hn hF s lv M hM es g0 g1 g2 g3 g4 h
    obtain ⟨n, rfl⟩ : ∃ n1, n = n1 + 1 := ⟨n - 1, by omega⟩
    replace hn : f ≤ n := Nat.le_of_succ_le_succ hn
    have hN := Nat.le_trans (Nat.le_of_succ_le hF) hN
    replace h := qa_iload (n := 4) (q := 35) (qa_d rfl h) rfl g4
    replace h := qa_iload (n := 2) (q := 36) (qa_e rfl h) rfl g2
    by_cases c1 : s.1 < l2
    · replace h := qa_iff (q := 39) (qa_e rfl h) rfl (qa_F_ge c1)
      replace h := qa_aload (n := 0) (q := 40) (qa_e rfl h) rfl g0
      replace h := qa_iload (n := 4) (q := 42) (qa_e rfl h) rfl g4
      obtain ⟨m2, em2⟩ : ∃ x, x = (ma_196_99 N s.1 s.2.2) := ⟨_, rfl⟩
      obtain ⟨M, h, hM, es⟩ := qa_c0 (y := 196) (as := [.ref 99, .int (s.1)]) (rest := []) (i := .invokevirtual 196) (q := 45) (qa_e rfl h) (Or.inl rfl) rfl rfl (by decide) rfl (fun r hc => mb_196_99 hN hM es hc)
      rw [← em2] at es
      replace h := qa_aload (n := 0) (q := 46) (qa_e rfl h) rfl g0
      obtain ⟨m3, em3⟩ : ∃ x, x = (ma_183_99 N m2) := ⟨_, rfl⟩
      obtain ⟨M, h, hM, es⟩ := qa_c0 (y := 183) (as := [.ref 99]) (rest := []) (i := .invokevirtual 183) (q := 49) (qa_e rfl h) (Or.inl rfl) rfl rfl (by decide) rfl (fun r hc => mb_183_99 hN hM es hc)
      rw [← em3] at es
      replace h := qa_push (z := (0 : Int32)) (q := 50) (qa_e rfl h) rfl (by decide)
      obtain ⟨lv, h, g, T⟩ := qa_istore (n := 5) (q := 52) (qa_e rfl h) rfl
      replace g0 := T _ _ g0 (by decide) (Or.inr rfl)
      replace g1 := T _ _ g1 (by decide) (Or.inr rfl)
      replace g2 := T _ _ g2 (by decide) (Or.inr rfl)
      replace g3 := T _ _ g3 (by decide) (Or.inr rfl)
      replace g4 := T _ _ g4 (by decide) (Or.inr rfl)
      have g5 := g
      clear g T
      replace h := qa_push (z := (0 : Int32)) (q := 53) (qa_e rfl h) rfl (by decide)
      obtain ⟨lv, h, g, T⟩ := qa_istore (n := 6) (q := 55) (qa_e rfl h) rfl
      replace g0 := T _ _ g0 (by decide) (Or.inr rfl)
      replace g1 := T _ _ g1 (by decide) (Or.inr rfl)
      replace g2 := T _ _ g2 (by decide) (Or.inr rfl)
      replace g3 := T _ _ g3 (by decide) (Or.inr rfl)
      replace g4 := T _ _ g4 (by decide) (Or.inr rfl)
      replace g5 := T _ _ g5 (by decide) (Or.inr rfl)
      have g6 := g
      clear g T
      obtain ⟨r4, er4⟩ : ∃ x, x = (qa_wh (fun s => s) (mc_237_99_p55 N l1 l2 s.2.1 s.1 m3) N ((0 : Int32), (0 : Int32))) := ⟨_, rfl⟩
      have L := md_237_99_p55 (l1 := l1) (l2 := l2) (l3 := s.2.1) (l4 := s.1) (σ := m3) (F := f) (N := N) (r := r) hN f N hN (Nat.le_refl f) ((0 : Int32), (0 : Int32)) _ _ hM es g0 g1 g2 g3 g4 g5 g6 h
      rw [← er4] at L
      obtain ⟨lv, M, h, hM, es, g0, g1, g2, g3, g4, g5⟩ := L
      replace h := qa_push (z := (1 : Int32)) (q := 106) (qa_e rfl h) rfl (by decide)
      obtain ⟨lv, h, g, T⟩ := qa_istore (n := 6) (q := 108) (qa_e rfl h) rfl
      replace g0 := T _ _ g0 (by decide) (Or.inr rfl)
      replace g1 := T _ _ g1 (by decide) (Or.inr rfl)
      replace g2 := T _ _ g2 (by decide) (Or.inr rfl)
      replace g3 := T _ _ g3 (by decide) (Or.inr rfl)
      replace g4 := T _ _ g4 (by decide) (Or.inr rfl)
      replace g5 := T _ _ g5 (by decide) (Or.inr rfl)
      have g6 := g
      clear g T
      replace h := qa_push (z := (0 : Int32)) (q := 109) (qa_e rfl h) rfl (by decide)
      obtain ⟨lv, h, g, T⟩ := qa_istore (n := 7) (q := 111) (qa_e rfl h) rfl
      replace g0 := T _ _ g0 (by decide) (Or.inr rfl)
      replace g1 := T _ _ g1 (by decide) (Or.inr rfl)
      replace g2 := T _ _ g2 (by decide) (Or.inr rfl)
      replace g3 := T _ _ g3 (by decide) (Or.inr rfl)
      replace g4 := T _ _ g4 (by decide) (Or.inr rfl)
      replace g5 := T _ _ g5 (by decide) (Or.inr rfl)
      replace g6 := T _ _ g6 (by decide) (Or.inr rfl)
      have g7 := g
      clear g T
      obtain ⟨r5, er5⟩ : ∃ x, x = (qa_wh (fun s => s) (mc_237_99_p111 N l1 l2 s.2.1 s.1 r4.2 m3) N ((0 : Int32), (1 : Int32))) := ⟨_, rfl⟩
      have L := md_237_99_p111 (l1 := l1) (l2 := l2) (l3 := s.2.1) (l4 := s.1) (l5 := r4.2) (σ := m3) (F := f) (N := N) (r := r) hN f N hN (Nat.le_refl f) ((0 : Int32), (1 : Int32)) _ _ hM es g0 g1 g2 g3 g4 g5 g6 g7 h
      rw [← er5] at L
      obtain ⟨lv, M, h, hM, es, g0, g1, g2, g3, g4, g5, g6⟩ := L
      replace h := qa_iload (n := 6) (q := 149) (qa_e rfl h) rfl g6
      obtain ⟨m7, em7⟩ : ∃ x, x = qa_u m3 123 s.2.1.toNatClampNeg r4.2 := ⟨_, rfl⟩
      obtain ⟨m8, em8⟩ : ∃ x, x = (if r5.2 = (0 : Int32) then m3 else m7) := ⟨_, rfl⟩
      obtain ⟨lv, M, h, hM, es, g0, g1, g2, g3, g4⟩ : ∃ lv M, q4_run f 237 163 lv [] M 0 0 = some r ∧ qa_O M ∧ qa_s M = m8 ∧ q4_get lv 0 = some (.ref 99) ∧ q4_get lv 1 = some (.int (l1)) ∧ q4_get lv 2 = some (.int (l2)) ∧ q4_get lv 3 = some (.int ((if r5.2 = (0 : Int32) then s.2.1 else (s.2.1 + (1 : Int32))))) ∧ q4_get lv 4 = some (.int (s.1)) := by
        by_cases c6 : r5.2 = (0 : Int32)
        · replace h := qa_ict (q := 163) (qa_e rfl h) rfl (qa_T_eq c6)
          exact ⟨lv, M, h, hM, ((qa_ms1 c6 es).trans em8.symm), g0, g1, g2, (qa_gi1 c6 g3), g4⟩
        · replace h := qa_icf (q := 152) (qa_e rfl h) rfl (qa_F_eq c6)
          replace h := qa_aload (n := 0) (q := 153) (qa_e rfl h) rfl g0
          replace h := qa_gr (b := 123) (j := 36) (q := 156) (qa_e rfl h) rfl hM rfl (by decide)
          replace h := qa_iload (n := 3) (q := 157) (qa_e rfl h) rfl g3
          replace h := qa_iload (n := 5) (q := 159) (qa_e rfl h) rfl g5
          obtain ⟨M, h, hM, es⟩ := qa_iastore (jn := s.2.1.toNatClampNeg) (q := 160) (qa_e rfl h) rfl hM es rfl
          rw [← em7] at es
          obtain ⟨lv, h, g, T⟩ := qa_iinc (n := 3) (z := (1 : Int32)) (q := 163) (qa_e rfl h) rfl (by decide) g3
          replace g0 := T _ _ g0 (by decide) (Or.inr rfl)
          replace g1 := T _ _ g1 (by decide) (Or.inr rfl)
          replace g2 := T _ _ g2 (by decide) (Or.inr rfl)
          replace g4 := T _ _ g4 (by decide) (Or.inr rfl)
          replace g3 := g
          clear g T
          exact ⟨lv, M, h, hM, ((qa_ms0 c6 es).trans em8.symm), g0, g1, g2, (qa_gi0 c6 g3), g4⟩
      obtain ⟨lv, h, g, T⟩ := qa_iinc (n := 4) (z := (1 : Int32)) (q := 166) (qa_e rfl h) rfl (by decide) g4
      replace g0 := T _ _ g0 (by decide) (Or.inr rfl)
      replace g1 := T _ _ g1 (by decide) (Or.inr rfl)
      replace g2 := T _ _ g2 (by decide) (Or.inr rfl)
      replace g3 := T _ _ g3 (by decide) (Or.inr rfl)
      replace g4 := g
      clear g T
      replace h := qa_goto (q := 33) (qa_e rfl h) rfl
      have e0 : mc_237_99_p33 N l1 l2 s = .inl ((s.1 + (1 : Int32)), (if r5.2 = (0 : Int32) then s.2.1 else (s.2.1 + (1 : Int32))), m8) := by exact Eq.trans (if_pos c1) (Eq.trans (qa_ie em2) (Eq.trans (qa_ie em3) (Eq.trans (qa_ie er4) (Eq.trans (qa_ie er5) (Eq.trans (qa_ie em7) (Eq.trans (qa_ie em8) (rfl)))))))
      rw [qa_whl e0]
      exact ih n hn (Nat.le_of_succ_le hF) ((s.1 + (1 : Int32)), (if r5.2 = (0 : Int32) then s.2.1 else (s.2.1 + (1 : Int32))), m8) _ _ hM es g0 g1 g2 g3 g4 h
    · replace h := qa_ift (q := 169) (qa_e rfl h) rfl (qa_T_ge c1)
      have e0 : mc_237_99_p33 N l1 l2 s = .inr (s.1, s.2.1, s.2.2) := by exact Eq.trans (if_neg c1) (rfl)
      rw [qa_whr e0]
      exact ⟨_, _, q61_mono f F _ _ _ _ _ _ _ _ (Nat.le_of_succ_le hF) h, hM, es, g3⟩
/-- BuriedBySevensModel, kinds, (I)I -/
noncomputable def ma_237_99 (N : Nat) (a1 : Int32) (σ : qa_S) : Int32 × qa_S :=
  qa_in (qa_u σ 99 9 (0 : Int32)) fun m1 =>
  if (ma_171_99 a1 m1) = (0 : Int32) then
    qa_in ((ma_152_99 (-1 : Int32) m1)) fun r3 =>
    (r3.1, r3.2)
  else
    qa_in ((ma_181_99 N m1)) fun m4 =>
    qa_in ((ma_195_99 N m4)) fun r5 =>
    qa_in ((qa_wh (fun s => s) (mc_237_99_p33 N a1 r5) N ((1 : Int32), (0 : Int32), m4))) fun r6 =>
    (r6.2.1, r6.2.2)
theorem mb_237_99 {f N : Nat} (hN : f ≤ N) {M : q4_M} {r : Option Value × q4_M} {σ : qa_S} {a1 : Int32} (hM : qa_O M) (es : qa_s M = σ) (h : q4_run f 237 0 (lv_args 0 [.ref 99, .int (a1)]) [] M 0 0 = some r) : r.1 = some (.int ((ma_237_99 N a1 σ).1)) ∧ qa_O r.2 ∧ qa_s r.2 = (ma_237_99 N a1 σ).2 := by
  obtain ⟨lv, el⟩ : ∃ l, l = lv_args 0 [.ref 99, .int (a1)] := ⟨_, rfl⟩
  have g0 : q4_get lv 0 = some (.ref 99) := by rw [el]; rfl
  have g1 : q4_get lv 1 = some (.int (a1)) := by rw [el]; rfl
  rw [← el] at h
  clear el
  replace h := qa_aload (n := 0) (q := 1) (qa_e rfl h) rfl g0
  replace h := qa_push (z := (0 : Int32)) (q := 2) (qa_e rfl h) rfl (by decide)
  obtain ⟨m1, em1⟩ : ∃ x, x = qa_u σ 99 9 (0 : Int32) := ⟨_, rfl⟩
  obtain ⟨M, h, hM, es⟩ := qa_pf (j := 9) (q := 5) (qa_e rfl h) rfl hM es rfl (by decide)
  rw [← em1] at es
  replace h := qa_aload (n := 0) (q := 6) (qa_e rfl h) rfl g0
  replace h := qa_iload (n := 1) (q := 7) (qa_e rfl h) rfl g1
  obtain ⟨M, h, hM, es⟩ := qa_c1 (y := 171) (as := [.ref 99, .int (a1)]) (rest := []) (i := .invokevirtual 171) (q := 10) (qa_e rfl h) (Or.inl rfl) rfl rfl (by decide) rfl (fun r hc => mb_171_99 hM es hc)
  by_cases c2 : (ma_171_99 a1 m1) = (0 : Int32)
  · replace h := qa_icf (q := 13) (qa_e rfl h) rfl (qa_F_ne c2)
    replace h := qa_aload (n := 0) (q := 14) (qa_e rfl h) rfl g0
    replace h := qa_push (z := (-1 : Int32)) (q := 15) (qa_e rfl h) rfl (by decide)
    obtain ⟨r3, er3⟩ : ∃ x, x = (ma_152_99 (-1 : Int32) m1) := ⟨_, rfl⟩
    obtain ⟨M, h, hM, es⟩ := qa_c1 (y := 152) (as := [.ref 99, .int ((-1 : Int32))]) (rest := []) (i := .invokevirtual 152) (q := 18) (qa_e rfl h) (Or.inl rfl) rfl rfl (by decide) rfl (fun r hc => mb_152_99 hM es hc)
    rw [← er3] at h es
    have er := qa_ri (qa_e rfl h)
    subst er
    have e0 : ma_237_99 N a1 σ = (r3.1, r3.2) := by exact Eq.trans (qa_ie em1) (Eq.trans (if_pos c2) (Eq.trans (qa_ie er3) (rfl)))
    rw [e0]
    exact ⟨rfl, hM, es⟩
  · replace h := qa_ict (q := 19) (qa_e rfl h) rfl (qa_T_ne c2)
    replace h := qa_aload (n := 0) (q := 20) (qa_e rfl h) rfl g0
    obtain ⟨m4, em4⟩ : ∃ x, x = (ma_181_99 N m1) := ⟨_, rfl⟩
    obtain ⟨M, h, hM, es⟩ := qa_c0 (y := 181) (as := [.ref 99]) (rest := []) (i := .invokevirtual 181) (q := 23) (qa_e rfl h) (Or.inl rfl) rfl rfl (by decide) rfl (fun r hc => mb_181_99 hN hM es hc)
    rw [← em4] at es
    replace h := qa_aload (n := 0) (q := 24) (qa_e rfl h) rfl g0
    obtain ⟨r5, er5⟩ : ∃ x, x = (ma_195_99 N m4) := ⟨_, rfl⟩
    obtain ⟨M, h, hM, es⟩ := qa_c1 (y := 195) (as := [.ref 99]) (rest := []) (i := .invokevirtual 195) (q := 27) (qa_e rfl h) (Or.inl rfl) rfl rfl (by decide) rfl (fun r hc => mb_195_99 hN hM es hc)
    rw [← er5] at h
    obtain ⟨lv, h, g, T⟩ := qa_istore (n := 2) (q := 28) (qa_e rfl h) rfl
    replace g0 := T _ _ g0 (by decide) (Or.inr rfl)
    replace g1 := T _ _ g1 (by decide) (Or.inr rfl)
    have g2 := g
    clear g T
    replace h := qa_push (z := (0 : Int32)) (q := 29) (qa_e rfl h) rfl (by decide)
    obtain ⟨lv, h, g, T⟩ := qa_istore (n := 3) (q := 30) (qa_e rfl h) rfl
    replace g0 := T _ _ g0 (by decide) (Or.inr rfl)
    replace g1 := T _ _ g1 (by decide) (Or.inr rfl)
    replace g2 := T _ _ g2 (by decide) (Or.inr rfl)
    have g3 := g
    clear g T
    replace h := qa_push (z := (1 : Int32)) (q := 31) (qa_e rfl h) rfl (by decide)
    obtain ⟨lv, h, g, T⟩ := qa_istore (n := 4) (q := 33) (qa_e rfl h) rfl
    replace g0 := T _ _ g0 (by decide) (Or.inr rfl)
    replace g1 := T _ _ g1 (by decide) (Or.inr rfl)
    replace g2 := T _ _ g2 (by decide) (Or.inr rfl)
    replace g3 := T _ _ g3 (by decide) (Or.inr rfl)
    have g4 := g
    clear g T
    obtain ⟨r6, er6⟩ : ∃ x, x = (qa_wh (fun s => s) (mc_237_99_p33 N a1 r5) N ((1 : Int32), (0 : Int32), m4)) := ⟨_, rfl⟩
    have L := md_237_99_p33 (l1 := a1) (l2 := r5) (F := f) (N := N) (r := r) hN f N hN (Nat.le_refl f) ((1 : Int32), (0 : Int32), m4) _ _ hM es g0 g1 g2 g3 g4 h
    rw [← er6] at L
    obtain ⟨lv, M, h, hM, es, g3⟩ := L
    replace h := qa_iload (n := 3) (q := 170) (qa_e rfl h) rfl g3
    have er := qa_ri (qa_e rfl h)
    subst er
    have e0 : ma_237_99 N a1 σ = (r6.2.1, r6.2.2) := by exact Eq.trans (qa_ie em1) (Eq.trans (if_neg c2) (Eq.trans (qa_ie em4) (Eq.trans (qa_ie er5) (Eq.trans (qa_ie er6) (rfl)))))
    rw [e0]
    exact ⟨rfl, hM, es⟩
noncomputable def mc_238_99_p52 (N : Nat) (l1 : Int32) (s : Int32 × Int32 × qa_S) : (Int32 × Int32 × qa_S) ⊕ (Int32 × Int32 × qa_S) :=
  if s.1 < (s.2.2 99 0) then
    qa_in (qa_u s.2.2 110 l1.toNatClampNeg (0 : Int32)) fun m3 =>
    qa_in (qa_u m3 110 s.1.toNatClampNeg (if (9 : Int32) < ((s.2.2 103 s.1.toNatClampNeg) + (s.2.2 103 l1.toNatClampNeg)) then (9 : Int32) else ((s.2.2 103 s.1.toNatClampNeg) + (s.2.2 103 l1.toNatClampNeg)))) fun m5 =>
    qa_in ((ma_218_99 N m5)) fun r6 =>
    qa_in (qa_u r6.2 110 l1.toNatClampNeg (r6.2 103 l1.toNatClampNeg)) fun m8 =>
    qa_in (qa_u m8 110 s.1.toNatClampNeg (m8 103 s.1.toNatClampNeg)) fun m9 =>
    qa_in ((if s.1 = l1 then s.2.2 else m9)) fun m10 =>
    .inl ((s.1 + (1 : Int32)), (if s.1 = l1 then s.2.1 else (s.2.1 ||| (if r6.1 = (0 : Int32) then ((1 : Int32) <<< (s.1 &&& 31)) else (0 : Int32)))), m10)
  else
    .inr (s.1, s.2.1, s.2.2)
theorem md_238_99_p52 {N F : Nat} {r : Option Value × q4_M} {l1 : Int32} (hN : F ≤ N) : ∀ f n, f ≤ n → f ≤ F → ∀ (s : Int32 × Int32 × qa_S) (lv : List (Nat × Value)) (M : q4_M), qa_O M → qa_s M = s.2.2 → q4_get lv 0 = some (.ref 99) → q4_get lv 1 = some (.int (l1)) → q4_get lv 3 = some (.int (s.2.1)) → q4_get lv 4 = some (.int (s.1)) → q4_run f 238 52 lv [] M 0 0 = some r → ∃ lv M, q4_run F 238 161 lv [] M 0 0 = some r ∧ qa_O M ∧ qa_s M = (qa_wh (fun s => s) (mc_238_99_p52 N l1) n s).2.2 ∧ q4_get lv 3 = some (.int ((qa_wh (fun s => s) (mc_238_99_p52 N l1) n s).2.1)) := by
  intro f
  induction f with
  | zero => intro n _ _ s lv M hM es _ _ _ _ h; cases h
  | succ f ih =>
    intro n hn hF s lv M hM es g0 g1 g3 g4 h
    obtain ⟨n, rfl⟩ : ∃ n1, n = n1 + 1 := ⟨n - 1, by omega⟩
    replace hn : f ≤ n := Nat.le_of_succ_le_succ hn
    have hN := Nat.le_trans (Nat.le_of_succ_le hF) hN
    replace h := qa_iload (n := 4) (q := 54) (qa_d rfl h) rfl g4
    replace h := qa_aload (n := 0) (q := 55) (qa_e rfl h) rfl g0
    replace h := qa_gi (j := 0) (q := 58) (qa_e rfl h) rfl hM es rfl (by decide)
    by_cases c1 : s.1 < (s.2.2 99 0)
    · replace h := qa_iff (q := 61) (qa_e rfl h) rfl (qa_F_ge c1)
      replace h := qa_iload (n := 4) (q := 63) (qa_e rfl h) rfl g4
      replace h := qa_iload (n := 1) (q := 64) (qa_e rfl h) rfl g1
      obtain ⟨m3, em3⟩ : ∃ x, x = qa_u s.2.2 110 l1.toNatClampNeg (0 : Int32) := ⟨_, rfl⟩
      obtain ⟨m5, em5⟩ : ∃ x, x = qa_u m3 110 s.1.toNatClampNeg (if (9 : Int32) < ((s.2.2 103 s.1.toNatClampNeg) + (s.2.2 103 l1.toNatClampNeg)) then (9 : Int32) else ((s.2.2 103 s.1.toNatClampNeg) + (s.2.2 103 l1.toNatClampNeg))) := ⟨_, rfl⟩
      obtain ⟨r6, er6⟩ : ∃ x, x = (ma_218_99 N m5) := ⟨_, rfl⟩
      obtain ⟨m8, em8⟩ : ∃ x, x = qa_u r6.2 110 l1.toNatClampNeg (r6.2 103 l1.toNatClampNeg) := ⟨_, rfl⟩
      obtain ⟨m9, em9⟩ : ∃ x, x = qa_u m8 110 s.1.toNatClampNeg (m8 103 s.1.toNatClampNeg) := ⟨_, rfl⟩
      obtain ⟨m10, em10⟩ : ∃ x, x = (if s.1 = l1 then s.2.2 else m9) := ⟨_, rfl⟩
      obtain ⟨lv, M, h, hM, es, g0, g1, g3, g4⟩ : ∃ lv M, q4_run f 238 155 lv [] M 0 0 = some r ∧ qa_O M ∧ qa_s M = m10 ∧ q4_get lv 0 = some (.ref 99) ∧ q4_get lv 1 = some (.int (l1)) ∧ q4_get lv 3 = some (.int ((if s.1 = l1 then s.2.1 else (s.2.1 ||| (if r6.1 = (0 : Int32) then ((1 : Int32) <<< (s.1 &&& 31)) else (0 : Int32)))))) ∧ q4_get lv 4 = some (.int (s.1)) := by
        by_cases c2 : s.1 = l1
        · replace h := qa_ift (q := 155) (qa_e rfl h) rfl (qa_T_eq c2)
          exact ⟨lv, M, h, hM, ((qa_ms1 c2 es).trans em10.symm), g0, g1, (qa_gi1 c2 g3), g4⟩
        · replace h := qa_iff (q := 67) (qa_e rfl h) rfl (qa_F_eq c2)
          replace h := qa_aload (n := 0) (q := 68) (qa_e rfl h) rfl g0
          replace h := qa_gr (b := 103) (j := 4) (q := 71) (qa_e rfl h) rfl hM rfl (by decide)
          replace h := qa_iload (n := 4) (q := 73) (qa_e rfl h) rfl g4
          replace h := qa_iaload (jn := s.1.toNatClampNeg) (q := 74) (qa_e rfl h) rfl hM es rfl
          replace h := qa_aload (n := 0) (q := 75) (qa_e rfl h) rfl g0
          replace h := qa_gr (b := 103) (j := 4) (q := 78) (qa_e rfl h) rfl hM rfl (by decide)
          replace h := qa_iload (n := 1) (q := 79) (qa_e rfl h) rfl g1
          replace h := qa_iaload (jn := l1.toNatClampNeg) (q := 80) (qa_e rfl h) rfl hM es rfl
          replace h := qa_iadd (q := 81) (qa_e rfl h) rfl
          obtain ⟨lv, h, g, T⟩ := qa_istore (n := 5) (q := 83) (qa_e rfl h) rfl
          replace g0 := T _ _ g0 (by decide) (Or.inr rfl)
          replace g1 := T _ _ g1 (by decide) (Or.inr rfl)
          replace g3 := T _ _ g3 (by decide) (Or.inr rfl)
          replace g4 := T _ _ g4 (by decide) (Or.inr rfl)
          have g5 := g
          clear g T
          replace h := qa_aload (n := 0) (q := 84) (qa_e rfl h) rfl g0
          replace h := qa_gr (b := 110) (j := 13) (q := 87) (qa_e rfl h) rfl hM rfl (by decide)
          replace h := qa_iload (n := 1) (q := 88) (qa_e rfl h) rfl g1
          replace h := qa_push (z := (0 : Int32)) (q := 89) (qa_e rfl h) rfl (by decide)
          obtain ⟨M, h, hM, es⟩ := qa_iastore (jn := l1.toNatClampNeg) (q := 90) (qa_e rfl h) rfl hM es rfl
          rw [← em3] at es
          replace h := qa_aload (n := 0) (q := 91) (qa_e rfl h) rfl g0
          replace h := qa_gr (b := 110) (j := 13) (q := 94) (qa_e rfl h) rfl hM rfl (by decide)
          replace h := qa_iload (n := 4) (q := 96) (qa_e rfl h) rfl g4
          replace h := qa_iload (n := 5) (q := 98) (qa_e rfl h) rfl g5
          replace h := qa_push (z := (9 : Int32)) (q := 100) (qa_e rfl h) rfl (by decide)
          obtain ⟨lv, M, h, hM, es, g0, g1, g3, g4⟩ : ∃ lv M, q4_run f 238 110 lv [.int ((if (9 : Int32) < ((s.2.2 103 s.1.toNatClampNeg) + (s.2.2 103 l1.toNatClampNeg)) then (9 : Int32) else ((s.2.2 103 s.1.toNatClampNeg) + (s.2.2 103 l1.toNatClampNeg)))), .int (s.1), .ref 110] M 0 0 = some r ∧ qa_O M ∧ qa_s M = m3 ∧ q4_get lv 0 = some (.ref 99) ∧ q4_get lv 1 = some (.int (l1)) ∧ q4_get lv 3 = some (.int (s.2.1)) ∧ q4_get lv 4 = some (.int (s.1)) := by
            by_cases c4 : (9 : Int32) < ((s.2.2 103 s.1.toNatClampNeg) + (s.2.2 103 l1.toNatClampNeg))
            · replace h := qa_iff (q := 103) (qa_e rfl h) rfl (qa_F_le c4)
              replace h := qa_push (z := (9 : Int32)) (q := 105) (qa_e rfl h) rfl (by decide)
              replace h := qa_goto (q := 110) (qa_e rfl h) rfl
              exact ⟨lv, M, (qa_hi1 c4 h), hM, es, g0, g1, g3, g4⟩
            · replace h := qa_ift (q := 108) (qa_e rfl h) rfl (qa_T_le c4)
              replace h := qa_iload (n := 5) (q := 110) (qa_e rfl h) rfl g5
              exact ⟨lv, M, (qa_hi0 c4 h), hM, es, g0, g1, g3, g4⟩
          obtain ⟨M, h, hM, es⟩ := qa_iastore (jn := s.1.toNatClampNeg) (q := 111) (qa_e rfl h) rfl hM es rfl
          rw [← em5] at es
          replace h := qa_iload (n := 3) (q := 112) (qa_e rfl h) rfl g3
          replace h := qa_aload (n := 0) (q := 113) (qa_e rfl h) rfl g0
          obtain ⟨M, h, hM, es⟩ := qa_c1 (y := 218) (as := [.ref 99]) (rest := [.int (s.2.1)]) (i := .invokevirtual 218) (q := 116) (qa_e rfl h) (Or.inl rfl) rfl rfl (by decide) rfl (fun r hc => mb_218_99 hN hM es hc)
          rw [← er6] at h es
          obtain ⟨lv, M, h, hM, es, g0, g1, g4⟩ : ∃ lv M, q4_run f 238 127 lv [.int ((if r6.1 = (0 : Int32) then ((1 : Int32) <<< (s.1 &&& 31)) else (0 : Int32))), .int (s.2.1)] M 0 0 = some r ∧ qa_O M ∧ qa_s M = r6.2 ∧ q4_get lv 0 = some (.ref 99) ∧ q4_get lv 1 = some (.int (l1)) ∧ q4_get lv 4 = some (.int (s.1)) := by
            by_cases c7 : r6.1 = (0 : Int32)
            · replace h := qa_icf (q := 119) (qa_e rfl h) rfl (qa_F_ne c7)
              replace h := qa_push (z := (1 : Int32)) (q := 120) (qa_e rfl h) rfl (by decide)
              replace h := qa_iload (n := 4) (q := 122) (qa_e rfl h) rfl g4
              replace h := qa_ishl (q := 123) (qa_e rfl h) rfl
              replace h := qa_goto (q := 127) (qa_e rfl h) rfl
              exact ⟨lv, M, (qa_hi1 c7 h), hM, es, g0, g1, g4⟩
            · replace h := qa_ict (q := 126) (qa_e rfl h) rfl (qa_T_ne c7)
              replace h := qa_push (z := (0 : Int32)) (q := 127) (qa_e rfl h) rfl (by decide)
              exact ⟨lv, M, (qa_hi0 c7 h), hM, es, g0, g1, g4⟩
          replace h := qa_ior (q := 128) (qa_e rfl h) rfl
          obtain ⟨lv, h, g, T⟩ := qa_istore (n := 3) (q := 129) (qa_e rfl h) rfl
          replace g0 := T _ _ g0 (by decide) (Or.inr rfl)
          replace g1 := T _ _ g1 (by decide) (Or.inr rfl)
          replace g4 := T _ _ g4 (by decide) (Or.inr rfl)
          have g3 := g
          clear g T
          replace h := qa_aload (n := 0) (q := 130) (qa_e rfl h) rfl g0
          replace h := qa_gr (b := 110) (j := 13) (q := 133) (qa_e rfl h) rfl hM rfl (by decide)
          replace h := qa_iload (n := 1) (q := 134) (qa_e rfl h) rfl g1
          replace h := qa_aload (n := 0) (q := 135) (qa_e rfl h) rfl g0
          replace h := qa_gr (b := 103) (j := 4) (q := 138) (qa_e rfl h) rfl hM rfl (by decide)
          replace h := qa_iload (n := 1) (q := 139) (qa_e rfl h) rfl g1
          replace h := qa_iaload (jn := l1.toNatClampNeg) (q := 140) (qa_e rfl h) rfl hM es rfl
          obtain ⟨M, h, hM, es⟩ := qa_iastore (jn := l1.toNatClampNeg) (q := 141) (qa_e rfl h) rfl hM es rfl
          rw [← em8] at es
          replace h := qa_aload (n := 0) (q := 142) (qa_e rfl h) rfl g0
          replace h := qa_gr (b := 110) (j := 13) (q := 145) (qa_e rfl h) rfl hM rfl (by decide)
          replace h := qa_iload (n := 4) (q := 147) (qa_e rfl h) rfl g4
          replace h := qa_aload (n := 0) (q := 148) (qa_e rfl h) rfl g0
          replace h := qa_gr (b := 103) (j := 4) (q := 151) (qa_e rfl h) rfl hM rfl (by decide)
          replace h := qa_iload (n := 4) (q := 153) (qa_e rfl h) rfl g4
          replace h := qa_iaload (jn := s.1.toNatClampNeg) (q := 154) (qa_e rfl h) rfl hM es rfl
          obtain ⟨M, h, hM, es⟩ := qa_iastore (jn := s.1.toNatClampNeg) (q := 155) (qa_e rfl h) rfl hM es rfl
          rw [← em9] at es
          exact ⟨lv, M, h, hM, ((qa_ms0 c2 es).trans em10.symm), g0, g1, (qa_gi0 c2 g3), g4⟩
      obtain ⟨lv, h, g, T⟩ := qa_iinc (n := 4) (z := (1 : Int32)) (q := 158) (qa_e rfl h) rfl (by decide) g4
      replace g0 := T _ _ g0 (by decide) (Or.inr rfl)
      replace g1 := T _ _ g1 (by decide) (Or.inr rfl)
      replace g3 := T _ _ g3 (by decide) (Or.inr rfl)
      replace g4 := g
      clear g T
      replace h := qa_goto (q := 52) (qa_e rfl h) rfl
      have e0 : mc_238_99_p52 N l1 s = .inl ((s.1 + (1 : Int32)), (if s.1 = l1 then s.2.1 else (s.2.1 ||| (if r6.1 = (0 : Int32) then ((1 : Int32) <<< (s.1 &&& 31)) else (0 : Int32)))), m10) := by exact Eq.trans (if_pos c1) (Eq.trans (qa_ie em3) (Eq.trans (qa_ie em5) (Eq.trans (qa_ie er6) (Eq.trans (qa_ie em8) (Eq.trans (qa_ie em9) (Eq.trans (qa_ie em10) (rfl)))))))
      rw [qa_whl e0]
      exact ih n hn (Nat.le_of_succ_le hF) ((s.1 + (1 : Int32)), (if s.1 = l1 then s.2.1 else (s.2.1 ||| (if r6.1 = (0 : Int32) then ((1 : Int32) <<< (s.1 &&& 31)) else (0 : Int32)))), m10) _ _ hM es g0 g1 g3 g4 h
    · replace h := qa_ift (q := 161) (qa_e rfl h) rfl (qa_T_ge c1)
      have e0 : mc_238_99_p52 N l1 s = .inr (s.1, s.2.1, s.2.2) := by exact Eq.trans (if_neg c1) (rfl)
      rw [qa_whr e0]
      exact ⟨_, _, q61_mono f F _ _ _ _ _ _ _ _ (Nat.le_of_succ_le hF) h, hM, es, g3⟩
