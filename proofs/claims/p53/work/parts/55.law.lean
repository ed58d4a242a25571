/-! the law: its loop, from what the constructors made -/
noncomputable def q83_p : q70_P := ([(0, 2560), (0, 2565), (0, 12), (0, 96)], [], [(0, (0, (-1), (-1)), (1, 0, 0)), (3, (0, 16, 16), (1, 2, 0)), (99, (0, 35, 35), (1, 2, 0)), (83, (0, 0, 0), (1, 3, 0)), (99, (0, 17, 17), (1, 3, 0))], [(2, 0, 0), (0, 3, 0), (1, 3, 16), (1, 83, 0)], [(0, (6, 0, 0)), (1, (6, 3, 3)), (2, (6, 99, 99)), (3, (1, 1, 0))])
noncomputable def q83_r : q70_R := (0, ([(0, 2560)], [], [(0, (0, (-1), (-1)), (1, 0, 0))], [], []), [(3, 0, 18), (4, 0, 9), (5, 0, 6), (6, 0, 6), (7, 0, 6), (8, 0, 6), (9, 0, 3), (10, 0, 3), (11, 0, 3), (12, 0, 3), (13, 0, 3), (14, 0, 3), (15, 0, 3), (16, 0, 6), (17, 0, 3), (18, 0, 3), (19, 0, 3), (20, 0, 3), (21, 0, 3), (22, 0, 3), (23, 0, 3), (24, 0, 5), (25, 0, 5), (26, 0, 5), (27, 0, 9), (28, 0, 6), (29, 0, 6), (30, 0, 6), (31, 0, 6), (32, 0, 3), (33, 0, 3), (34, 0, 3), (35, 0, 3), (36, 0, 3), (37, 0, 3), (38, 0, 3), (39, 0, 6), (40, 0, 3), (41, 0, 3), (42, 0, 3), (43, 0, 3), (44, 0, 3), (45, 0, 3), (46, 0, 3), (47, 0, 5), (48, 0, 5), (49, 0, 5), (50, 0, 9), (51, 0, 6), (52, 0, 6), (53, 0, 6), (54, 0, 6), (55, 0, 3), (56, 0, 3), (57, 0, 3), (58, 0, 3), (59, 0, 3), (60, 0, 3), (61, 0, 3), (62, 0, 6), (63, 0, 3), (64, 0, 3), (65, 0, 3), (66, 0, 3), (67, 0, 3), (68, 0, 3), (69, 0, 3), (70, 0, 5), (71, 0, 5), (72, 0, 5), (73, 0, 3), (74, 0, 3), (75, 0, 2186), (76, 0, 2186), (77, 0, 2186), (78, 0, 2186), (79, 0, 2186), (80, 0, 1), (81, 0, 3), (82, 0, 3), (83, 0, 1), (84, 0, 95), (85, 0, 3), (86, 0, 7), (87, 0, 7), (88, 0, 7), (89, 0, 1), (90, 0, 5), (91, 0, 5), (92, 0, 11), (93, 0, 6), (94, 0, 3), (95, 0, 3), (96, 0, 3), (97, 0, 5), (98, 0, 4095), (99, 0, 36), (100, 0, 6), (101, 0, 6), (102, 0, 27), (103, 0, 6), (104, 0, 5), (105, 0, 5), (106, 0, 5), (107, 0, 6), (108, 0, 27), (109, 0, 3), (110, 0, 6), (111, 0, 3), (112, 0, 2186), (113, 0, 95), (114, 0, 48), (115, 0, 48), (116, 0, 146), (117, 0, 68), (118, 0, 68), (119, 0, 551), (120, 0, 68), (121, 0, 6), (122, 0, 11), (123, 0, 2186)], [(18, [(1, 3)], q83_p)], [([(0, 2560)], [], [], [(2, 0, 0)], [(0, (0, 1, 1))])])
theorem q83_k : (q61_rb (q70_c q83_r) && (q70_c q83_r).2.2.2.2.all (fun P => q50_gh 0 1 P.2.1) && (q70_c q83_r).2.2.2.1.all (fun q => q50_gh 0 1 q.2.2.2.1) && (q70_c q83_r).2.2.2.1.all (fun q => q50_seg q70_G q70_n 121 21249 (q70_c q83_r) 30000 q.1 q.2.2 (some (q.2.2.2.2, q.2.1)))) = true := by decide +kernel
theorem q83_loop {L : Nat} {M : q4_M} {lv : List (Nat × Value)} {ρ : List Int} (he : q52_e [(L : Int)] ρ) (hin : q60_in ρ M (q70_p q83_p) lv) (hM : q52_M M) (hJ : q60_J M) : ∃ M', q62_ev 0 18 lv [] M 121 21249 (some (.int 1), M') := by
  have hk := q83_k
  simp only [Bool.and_eq_true] at hk
  obtain ⟨⟨⟨k1, k2⟩, k3⟩, k4⟩ := hk
  have hΓ : ∀ y c, c ∈ q70_G y → c.1 < q70_n → c.2.1 = y ∧ q60_V c.2 := fun y c hc _ => q77_V hc
  have hst : ∀ q ∈ (q70_c q83_r).2.2.2.1, q61_step (q70_c q83_r) 121 21249 [(L : Int)] q := fun q hq => q61_segS hΓ k2 k3 k1 hq (List.all_eq_true.mp k4 q hq)
  obtain ⟨f, v, M', h1, -, -, -, P, hP, ρ', -, -, -, hv⟩ := q61_steps hst _ (18, [(1, 3)], q70_p q83_p) (.head _) ρ lv M he hin hM hJ (Nat.lt_succ_self _)
  refine ⟨M', f, ?_⟩
  rcases List.mem_cons.mp hP with rfl | hP
  · cases v with
    | none => cases hv
    | some x =>
      have hv : q52_g ρ' (0, 1, 1) x := hv
      obtain ⟨z, rfl, z1, z2⟩ := q54_gi rfl hv
      have : z = 1 := Int32.toInt_inj.mp (by
        have : (1 : Int32).toInt = 1 := by decide
        omega)
      rw [this] at h1
      exact h1
  · cases hP
theorem q83_law {L : Nat} (hL : L ≤ 2560) (xs : Nat → Int32) : ∃ M', q62_ev 0 0 [(0, .ref 0)] [] (q82_N0 (0, L, fun j => .int (xs j))) 0 0 (some (.int 1), M') := by
  obtain ⟨x, ex⟩ : ∃ x : q4_C, x = (0, L, fun j => .int (xs j)) := ⟨_, rfl⟩
  rw [← ex]
  obtain ⟨N1, N2, n1, ok1, n2, ok2, e1, e2, cells, zs, js⟩ := q82_made x
  have c0 : (q81_sw N2 x).2 0 = x := rfl
  have ca : ∀ {a : Nat}, a ≠ 0 → (q81_sw N2 x).2 a = N2.2 a := fun h => q81_2 N2 x h
  have hM : q52_M (q81_sw N2 x) := by
    refine ⟨n2, by rw [c0, ex], ?_, by rw [c0, ex]; exact hL, fun a a0 a1 => ?_⟩
    · rw [c0, ex]
      exact fun j _ => ⟨_, rfl⟩
    · rw [ca (by omega)]
      exact cells a a0 a1
  have hJ : q60_J (q81_sw N2 x) := by
    intro i hi v h1 h2
    rw [ca (by decide), js i hi] at h1
    exact absurd h1 (by decide)
  have z1 : ((q81_sw N2 x).2 3).2.2 16 = .int 0 := by rw [ca (by decide)]; exact zs (3, 16) (.head _)
  have z2 : ((q81_sw N2 x).2 99).2.2 35 = .int 0 := by rw [ca (by decide)]; exact zs (99, 35) (.tail _ (.head _))
  have z3 : ((q81_sw N2 x).2 83).2.2 0 = .int 0 := by rw [ca (by decide)]; exact zs (83, 0) (.tail _ (.tail _ (.head _)))
  have z4 : ((q81_sw N2 x).2 99).2.2 17 = .int 0 := by rw [ca (by decide)]; exact zs (99, 17) (.tail _ (.tail _ (.tail _ (.head _))))
  obtain ⟨lv, elv⟩ : ∃ lv, lv = q4_st1 (q4_st1 (q4_st1 [(0, .ref 0)] 1 (.ref 3)) 2 (.ref 99)) 3 (.int (Int32.ofInt 0)) := ⟨_, rfl⟩
  have g0 : q4_get lv 0 = some (.ref 0) := by rw [elv]; exact q62_g2 (q62_g2 (q62_g2 rfl rfl (by decide)) rfl (by decide)) rfl (by decide)
  have g1 : q4_get lv 1 = some (.ref 3) := by rw [elv]; exact q62_g2 (q62_g2 q62_g1 rfl (by decide)) rfl (by decide)
  have g2 : q4_get lv 2 = some (.ref 99) := by rw [elv]; exact q62_g2 q62_g1 rfl (by decide)
  have g3 : q4_get lv 3 = some (.int (Int32.ofInt 0)) := by rw [elv]; exact q62_g1
  have zero : (Int32.ofInt 0).toInt = 0 := by decide
  have hin : q60_in [(L : Int), 0, 0, 0] (q81_sw N2 x) (q70_p q83_p) lv := by
    refine ⟨q74_E (l := [(0, 2560), (0, 2565), (0, 12), (0, 96)]) ⟨⟨by dsimp only; omega, by dsimp only; omega⟩, by decide, by decide, by decide, trivial⟩ (by decide) (fun f hf => by cases hf), fun r hr => ?_, q74_Lc g0 (q74_gr (a := 0)) (q74_Lc g1 (q74_gr (a := 3)) (q74_Lc g2 (q74_gr (a := 99)) (q74_Lc g3 (q74_gi (i := 1) rfl zero) q74_L0)))⟩
    rcases List.mem_cons.mp hr with rfl | hr
    · refine ⟨-1, ⟨Int.le_refl _, Int.le_refl _⟩, ?_⟩
      show q52_g _ (1, 0, 0) (.int (x.2.1).toInt32)
      rw [ex]
      exact q74_gi (i := 0) rfl (q58_len hL)
    rcases List.mem_cons.mp hr with rfl | hr
    · refine ⟨16, ⟨Int.le_refl _, Int.le_refl _⟩, ?_⟩
      show q52_g _ (1, 2, 0) (((q81_sw N2 x).2 3).2.2 16)
      rw [z1]
      exact q74_gi (i := 2) rfl (by decide)
    rcases List.mem_cons.mp hr with rfl | hr
    · refine ⟨35, ⟨Int.le_refl _, Int.le_refl _⟩, ?_⟩
      show q52_g _ (1, 2, 0) (((q81_sw N2 x).2 99).2.2 35)
      rw [z2]
      exact q74_gi (i := 2) rfl (by decide)
    rcases List.mem_cons.mp hr with rfl | hr
    · refine ⟨0, ⟨Int.le_refl _, Int.le_refl _⟩, ?_⟩
      show q52_g _ (1, 3, 0) (((q81_sw N2 x).2 83).2.2 0)
      rw [z3]
      exact q74_gi (i := 3) rfl (by decide)
    rcases List.mem_cons.mp hr with rfl | hr
    · refine ⟨17, ⟨Int.le_refl _, Int.le_refl _⟩, ?_⟩
      show q52_g _ (1, 3, 0) (((q81_sw N2 x).2 99).2.2 17)
      rw [z4]
      exact q74_gi (i := 3) rfl (by decide)
    cases hr
  obtain ⟨M', hev⟩ := q83_loop ⟨[0, 0, 0], rfl⟩ hin hM hJ
  refine ⟨M', ?_⟩
  refine q62_s (i := .new 6) (pc1 := 3) (lv1 := [(0, .ref 0)]) (st1 := [.ref 3]) (M1 := q4_new (q82_N0 x) (8, q2_N 6, fun j => defaultValue (q2_ty 6 j))) (ce1 := 1) (sl1 := 19) rfl rfl ?_
  refine q62_s (i := .dup) rfl rfl ?_
  refine q62_c (i := .invokespecial 1) (y := 1) (as := [.ref 3]) (rest := [.ref 3]) (v := none) (M1 := q81_sw N1 x) rfl rfl e1 ?_
  refine q62_s (i := .astore 1) (pc1 := 8) (lv1 := q4_st1 [(0, .ref 0)] 1 (.ref 3)) (st1 := []) (M1 := q81_sw N1 x) (ce1 := 96) (sl1 := 15602) rfl rfl ?_
  refine q62_s (i := .new 7) (pc1 := 11) (lv1 := q4_st1 [(0, .ref 0)] 1 (.ref 3)) (st1 := [.ref 99]) (M1 := q4_new (q81_sw N1 x) (9, q2_N 7, fun j => defaultValue (q2_ty 7 j))) (ce1 := 97) (sl1 := 15639) rfl (by
    unfold q4_step
    dsimp only
    rw [if_pos (by decide), q81_1, n1]
    rfl) ?_
  refine q62_s (i := .dup) rfl rfl ?_
  refine q62_c (i := .invokespecial 150) (y := 150) (as := [.ref 99]) (rest := [.ref 99]) (v := none) (M1 := q81_sw N2 x) rfl (by
    unfold q4_step
    dsimp only
    unfold q4_call
    dsimp only
    rw [if_pos (of_decide_eq_true rfl)]
    show (if 99 < N1.1 + 1 ∧ (if 99 = (q81_sw N1 x).1 then ((9, q2_N 7, fun j => defaultValue (q2_ty 7 j)) : q4_C) else (q81_sw N1 x).2 99).1 = q2_own 150 + 2 ∧ q2_own 150 < 8 then some (.inr (.inl (150, [.ref 99], [.ref 99])) : q4_R) else none) = _
    rw [q81_1, n1, if_pos (c := 99 = 99) rfl, if_pos (by decide)]) e2 ?_
  refine q62_s (i := .astore 2) (pc1 := 16) (lv1 := q4_st1 (q4_st1 [(0, .ref 0)] 1 (.ref 3)) 2 (.ref 99)) (st1 := []) (M1 := q81_sw N2 x) (ce1 := 121) (sl1 := 21249) rfl rfl ?_
  refine q62_s (i := .bipush 0) rfl rfl ?_
  refine q62_istore (n := 3) rfl (by decide) ?_
  rw [← elv]
  exact hev
