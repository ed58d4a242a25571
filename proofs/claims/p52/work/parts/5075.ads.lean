theorem q75_post {c : q50_C} {ρ0 : List Int} {pc pc' : Nat} {lv lv' : List (Nat × Value)} {M M1 : q4_M} (hF : q52_F c.2.2.1 M M1) (h : ∀ r, q62_ev c.1 pc' lv' [] M1 0 0 r → q62_ev c.1 pc lv [] M 0 0 r) (hp : q61_post c 0 0 ρ0 pc' lv' M1) : q61_post c 0 0 ρ0 pc lv M := by
  obtain ⟨f, v, M', h1, h2, h3, h4, h5⟩ := hp
  obtain ⟨f', h6⟩ := h _ ⟨f, h1⟩
  exact ⟨f', v, M', h6, h2, h3, q57_Ft hF h4, h5⟩
theorem q75_lt {lv lv' : List (Nat × Value)} {r s : Nat × Int} {x y : q50_K} (hy : ∀ r ∈ y, q61_b r = true) (hl : x.length = y.length) (hg : q61_g lv' s < q61_g lv r) : q61_m lv' (s :: y) < q61_m lv (r :: x) := by
  have my := q61_mb (lv := lv') (K := y) hy
  show q61_g lv' s * 73786976294838206464 ^ y.length + q61_m lv' y < q61_g lv r * 73786976294838206464 ^ x.length + q61_m lv x
  rw [hl]
  generalize 73786976294838206464 ^ y.length = B at my ⊢
  have h3 : (q61_g lv' s + 1) * B ≤ q61_g lv r * B := Nat.mul_le_mul_right B hg
  rw [Nat.add_mul, Nat.one_mul] at h3
  omega
theorem q75_eq {lv lv' : List (Nat × Value)} {r : Nat × Int} {x y : q50_K} (hl : x.length = y.length) (hg : q61_g lv' r = q61_g lv r) (h : q61_m lv' y < q61_m lv x) : q61_m lv' (r :: y) < q61_m lv (r :: x) := by
  show q61_g lv' r * 73786976294838206464 ^ y.length + q61_m lv' y < q61_g lv r * 73786976294838206464 ^ x.length + q61_m lv x
  rw [hl, hg]
  omega
theorem q75_n {lv : List (Nat × Value)} {n : Nat} {x : Int32} (h : q4_get lv n = some (.int x)) : q61_n lv (1, (n : Int)) = x.toInt := by
  show (match q4_get lv n with | some (.int w) => w.toInt | some (.long w) => w.toInt | _ => 0) = _
  rw [h]
theorem q75_gn {lv : List (Nat × Value)} {n : Nat} {x : Int32} (h : q4_get lv n = some (.int x)) : q61_g lv (1, (n : Int)) = (18446744073709551616 - x.toInt).toNat := by
  show (18446744073709551616 - q61_n lv (1, (n : Int))).toNat = _
  rw [q75_n h]
theorem q75_g0 {lv : List (Nat × Value)} {c : Int} : q61_g lv (0, c) = (18446744073709551616 - c).toNat := rfl
theorem q75_shl : ∀ n, n ≤ 7 → (1 : Int) ≤ (Int32.ofInt 1 <<< (nI n &&& 31)).toInt ∧ (Int32.ofInt 1 <<< (nI n &&& 31)).toInt ≤ 128 := by decide +kernel
theorem q75_73 {o b : Int} {X : Int32} (hX : X.toInt = o) (hb : b = (q75_bc X).toInt) : q61_step (q70_c q70_px0) 0 0 [o, b] (73, [(0, 73), (1, 7), (0, 73)], q70_p q70_p0_73) := by
  intro ρ lv M he hin hM hJ
  have hB : q74_B ρ [(0, 127), (0, 6), (0, 6), (0, 1), (-9223372036854775808, 9223372036854775807), (0, 128)] := q74_Ei hin.1
  obtain ⟨τ, hτ⟩ := he
  match ρ, hB, hin, hτ with
  | [o', b', c, w, s, i], hB, hin, hτ =>
    obtain ⟨B0, B1, B2, B3, B4, B5, -⟩ := hB
    dsimp only at B0 B1 B2 B3 B4 B5
    have e0 : o' = o := by have := congrArg (fun l => l[0]?) hτ; simpa using this
    have e1 : b' = b := by have := congrArg (fun l => l[1]?) hτ; simpa using this
    subst e0 e1
    have hL : q52_L [o', b', c, w, s, i] [(0, (6, 3, 3)), (1, (1, 2, 0)), (2, (1, 3, 0)), (3, (1, 0, 0)), (4, (1, 1, 0)), (5, (3, 4, 0)), (7, (1, 5, 0))] lv := hin.2.2
    have h0 := q74_lr (a := 3) hL (n := 0) (by simp)
    obtain ⟨C, h1, eC⟩ := q74_li hL (n := 1) (i := 2) (z := c) (by simp) rfl
    obtain ⟨Wv, h2, eW⟩ := q74_li hL (n := 2) (i := 3) (z := w) (by simp) rfl
    obtain ⟨X', h3, eX⟩ := q74_li hL (n := 3) (i := 0) (z := o') (by simp) rfl
    obtain ⟨Bh, h4, eB⟩ := q74_li hL (n := 4) (i := 1) (z := b') (by simp) rfl
    obtain ⟨Sm, h5, eS⟩ := q74_ll hL (n := 5) (i := 4) (z := s) (by simp) rfl
    obtain ⟨I, h7, eI⟩ := q74_li hL (n := 7) (i := 5) (z := i) (by simp) rfl
    have eXX : X' = X := Int32.toInt_inj.mp (by omega)
    subst eXX
    obtain ⟨N, hN, N0, N1⟩ := q62_int (a := 4) (j := 0) (lo := 0) (hi := 7) hM (by decide) (by decide) (by decide) rfl
    obtain ⟨nn, hnn, eN⟩ := q75_nI (n := 8) N0 (by omega)
    have hs := q75_shl nn (by omega)
    rw [← eN] at hs
    have path : ∀ r, q62_ev 103 84 lv [.int (Int32.ofInt 1 <<< (N &&& 31)), .int I] M 0 0 r → q62_ev 103 73 lv [] M 0 0 r := by
      intro r hr
      refine q62_iload (n := 7) rfl h7 ?_
      refine q62_s (i := .bipush 1) rfl rfl ?_
      refine q62_aload (n := 0) rfl h0 ?_
      refine q62_getfield (f := 384) rfl hM (by decide) (q62_ref (p := 4) hM (by decide) (by decide) (by decide) rfl) ?_
      refine q62_getfield (f := 0) rfl hM (by decide) hN ?_
      exact q62_s (i := .ishl) rfl rfl hr
    have hF : q52_F (q70_c q70_px0).2.2.1 M M := q57_Fr _ _
    have rk1 : q61_b (1, 7) = true := by decide
    cases hc : q4_icmp .ge I (Int32.ofInt 1 <<< (N &&& 31)) with
    | true =>
      refine Or.inr ⟨(158, [(0, 158), (0, 0), (0, 0)], q70_p q70_p0_158), .tail _ (.head _), [o', b', c, w, s], lv, M, ⟨[c, w, s], rfl⟩, ⟨q74_E (l := [(0, 127), (0, 6), (0, 6), (0, 1), (-9223372036854775808, 9223372036854775807)]) ⟨B0, B1, B2, B3, B4, trivial⟩ (by decide) (fun f hf => by cases hf), fun r hr => (by cases hr), ?_⟩, hM, hJ, ?_, ?_⟩
      · exact q74_Lc h0 (q74_gr (a := 3)) (q74_Lc h1 (q74_gi (i := 2) (z := c) rfl eC) (q74_Lc h2 (q74_gi (i := 3) (z := w) rfl eW) (q74_Lc h3 (q74_gi (i := 0) (z := o') rfl eX) (q74_Lc h4 (q74_gi (i := 1) (z := b') rfl eB) (q74_Lc h5 (q74_gl (i := 4) (z := s) rfl eS) q74_L0)))))
      · exact q75_lt (by decide) rfl (by rw [q75_g0, q75_g0]; decide)
      · exact q75_post (c := q70_c q70_px0) hF (fun r hr => path r (q62_ift (c := .ge) rfl hc hr))
    | false =>
      have hI : I.toInt ≤ 127 := by
        have : ¬ (Int32.ofInt 1 <<< (N &&& 31)) ≤ I := fun h => by
          have : q4_icmp .ge I (Int32.ofInt 1 <<< (N &&& 31)) = true := decide_eq_true h
          rw [hc] at this
          cases this
        rw [Int32.le_iff_toInt_le] at this
        omega
      have path2 : ∀ r, q62_ev 103 93 lv [.int (I &&& (X' ^^^ Int32.ofInt (-1)))] M 0 0 r → q62_ev 103 73 lv [] M 0 0 r := by
        intro r hr
        refine path r (q62_iff (c := .ge) rfl hc ?_)
        refine q62_iload (n := 7) rfl h7 ?_
        refine q62_iload (n := 3) rfl h3 ?_
        refine q62_s (i := .bipush (-1)) rfl rfl ?_
        refine q62_s (i := .ixor) rfl rfl ?_
        exact q62_s (i := .iand) rfl rfl hr
      cases hd : q4_icmp .eq (I &&& (X' ^^^ Int32.ofInt (-1))) 0 with
      | false =>
        have eI1 : (I + Int32.ofInt 1).toInt = i + 1 := by
          rw [Int32.toInt_add, ← eI]
          exact q53_b32 (z := I.toInt + 1) (by omega) (by omega)
        have g : ∀ {j : Nat} {x : Value}, q4_get lv j = some x → j ≠ 7 → j + 1 ≠ 7 → q4_get (q4_st1 lv 7 (.int (I + Int32.ofInt 1))) j = some x := fun h a b => q62_g2' h a b
        refine Or.inr ⟨(73, [(0, 73), (1, 7), (0, 73)], q70_p q70_p0_73), .tail _ (.tail _ (.tail _ (.head _))), [o', b', c, w, s, i + 1], q4_st1 lv 7 (.int (I + Int32.ofInt 1)), M, ⟨[c, w, s, i + 1], rfl⟩, ⟨q74_E (l := [(0, 127), (0, 6), (0, 6), (0, 1), (-9223372036854775808, 9223372036854775807), (0, 128)]) ⟨B0, B1, B2, B3, B4, (by dsimp only; omega), trivial⟩ (by decide) (fun f hf => by cases hf), fun r hr => (by cases hr), ?_⟩, hM, hJ, ?_, ?_⟩
        · exact q74_Lc (g h0 (by decide) (by decide)) (q74_gr (a := 3)) (q74_Lc (g h1 (by decide) (by decide)) (q74_gi (i := 2) (z := c) rfl eC) (q74_Lc (g h2 (by decide) (by decide)) (q74_gi (i := 3) (z := w) rfl eW) (q74_Lc (g h3 (by decide) (by decide)) (q74_gi (i := 0) (z := o') rfl eX) (q74_Lc (g h4 (by decide) (by decide)) (q74_gi (i := 1) (z := b') rfl eB) (q74_Lc (g h5 (by decide) (by decide)) (q74_gl (i := 4) (z := s) rfl eS) (q74_Lc q62_g1 (q74_gi (i := 5) (z := i + 1) rfl eI1) q74_L0))))))
        · refine q75_eq rfl rfl (q75_lt (by decide) rfl ?_)
          show q61_g _ (1, ((7 : Nat) : Int)) < q61_g lv (1, ((7 : Nat) : Int))
          rw [q75_gn (n := 7) h7, q75_gn (n := 7) q62_g1]
          omega
        · exact q75_post (c := q70_c q70_px0) hF (fun r hr => path2 r (q62_icf (c := .eq) rfl hd (q62_s (i := .goto 152) rfl rfl (q62_iinc (n := 7) (v := 1) rfl h7 (by decide) (q62_s (i := .goto 73) rfl rfl hr)))))
      | true =>
        have hsub := q75_s (o := X') (s := I) (by omega) (by omega) (by omega) hI hd
        have g : ∀ {j : Nat} {x : Value}, q4_get lv j = some x → j ≠ 8 → x.category = 1 → q4_get (q4_st1 lv 8 (.int (q75_bc I))) j = some x := fun h a b => q62_g2 h b a
        refine Or.inr ⟨(106, [(0, 73), (1, 7), (0, 106)], q70_p q70_p0_106), .head _, [o', b', c, w, s, i, (q75_bc I).toInt], q4_st1 lv 8 (.int (q75_bc I)), M, ⟨[c, w, s, i, (q75_bc I).toInt], rfl⟩, ⟨q74_E (l := [(0, 127), (0, 6), (0, 6), (0, 1), (-9223372036854775808, 9223372036854775807), (0, 127), (0, 6)]) ⟨B0, B1, B2, B3, B4, (by dsimp only; omega), (by dsimp only; omega), trivial⟩ (by decide) (fun f hf => ?_), fun r hr => (by cases hr), ?_⟩, hM, hJ, ?_, ?_⟩
        · rcases List.mem_cons.mp hf with rfl | hf
          · exact ⟨_, _, rfl, rfl, by dsimp only; omega⟩
          · cases hf
        · exact q74_Lc (g h0 (by decide) rfl) (q74_gr (a := 3)) (q74_Lc (g h1 (by decide) rfl) (q74_gi (i := 2) (z := c) rfl eC) (q74_Lc (g h2 (by decide) rfl) (q74_gi (i := 3) (z := w) rfl eW) (q74_Lc (g h3 (by decide) rfl) (q74_gi (i := 0) (z := o') rfl eX) (q74_Lc (g h4 (by decide) rfl) (q74_gi (i := 1) (z := b') rfl eB) (q74_Lc (q62_g2' h5 (by decide) (by decide)) (q74_gl (i := 4) (z := s) rfl eS) (q74_Lc (g h7 (by decide) rfl) (q74_gi (i := 5) (z := i) rfl eI) (q74_Lc q62_g1 (q74_gi (i := 6) (z := (q75_bc I).toInt) rfl rfl) q74_L0)))))))
        · refine q75_eq rfl rfl (q75_eq rfl ?_ (q75_lt (by decide) rfl (by rw [q75_g0, q75_g0]; decide)))
          show q61_g _ (1, ((7 : Nat) : Int)) = q61_g lv (1, ((7 : Nat) : Int))
          rw [q75_gn (n := 7) h7, q75_gn (n := 7) (g h7 (by decide) rfl)]
        · refine q75_post (c := q70_c q70_px0) hF (fun r hr => path2 r (q62_ict (c := .eq) rfl hd (q62_iload (n := 7) rfl h7 ?_)))
          exact q62_stat (y := 63) (as := [.int I]) (rest := []) rfl rfl rfl (of_decide_eq_true rfl) (q75_ev I) (q62_istore (n := 8) rfl (by decide) hr)
theorem q75_k : (q61_rb (q70_c q70_px0) && (q70_c q70_px0).2.2.2.2.all (fun P => q50_gh 0 2 P.2.1) && (q70_c q70_px0).2.2.2.1.all (fun q => q50_gh 0 2 q.2.2.2.1) && (q70_c q70_px0).2.2.2.1.all (fun q => bif Nat.beq q.1 73 then true else q50_seg q70_G 20 0 0 (q70_c q70_px0) 30000 q.1 q.2.2 (some (q.2.2.2.2, q.2.1)))) = true := by decide +kernel
theorem q75_67 (hΓ : ∀ y c, c ∈ q70_G y → c.1 < 20 → c.2.1 = y ∧ q60_V c.2) {o b : Int} {X : Int32} (hX : X.toInt = o) (hb : b = (q75_bc X).toInt) {ρ : List Int} {lv : List (Nat × Value)} {M : q4_M} (he : q52_e [o, b] ρ) (hin : q60_in ρ M (q70_p q70_p0_67) lv) (hM : q52_M M) (hJ : q60_J M) : q61_post (q70_c q70_px0) 0 0 [o, b] 67 lv M := by
  have hk := q75_k
  simp only [Bool.and_eq_true] at hk
  obtain ⟨⟨⟨k1, k2⟩, k3⟩, k4⟩ := hk
  have hst : ∀ q ∈ (q70_c q70_px0).2.2.2.1, q61_step (q70_c q70_px0) 0 0 [o, b] q := by
    intro q hq
    have h5 := List.all_eq_true.mp k4 q hq
    cases hb0 : Nat.beq q.1 73 with
    | true =>
      have e : q.1 = 73 := Nat.eq_of_beq_eq_true hb0
      rcases List.mem_cons.mp hq with rfl | hq
      · cases e
      · rcases List.mem_cons.mp hq with rfl | hq
        · cases e
        · rcases List.mem_cons.mp hq with rfl | hq
          · cases e
          · rcases List.mem_cons.mp hq with rfl | hq
            · exact q75_73 hX hb
            · cases hq
    | false =>
      rw [hb0, cond_false] at h5
      exact q61_segS hΓ k2 k3 k1 hq h5
  exact q61_steps hst _ (67, [(0, 67), (0, 0), (0, 0)], q70_p q70_p0_67) (.tail _ (.tail _ (.head _))) ρ lv M he hin hM hJ (Nat.lt_succ_self _)
theorem q75_50 (hΓ : ∀ y c, c ∈ q70_G y → c.1 < 20 → c.2.1 = y ∧ q60_V c.2) (hV : q60_V (q70_at 19)) {ρ0 : List Int} (hn : ρ0.length = 2) : q61_step (q70_at 20) 0 0 ρ0 (50, [(0, 50)], q70_p q70_c20_50) := by
  intro ρ lv M he hin hM hJ
  left
  have hB : q74_B ρ [(-2147483648, 2147483647), (-2147483648, 2147483647), (0, 6), (0, 1), (1, 7)] := q74_Ei hin.1
  obtain ⟨τ, hτ⟩ := he
  match ρ, hB, hin, hτ with
  | [a0, a1, c, w, n], hB, hin, hτ =>
    obtain ⟨B0, B1, B2, B3, B4, -⟩ := hB
    dsimp only at B0 B1 B2 B3 B4
    have hL : q52_L [a0, a1, c, w, n] [(0, (6, 3, 3)), (1, (1, 2, 0)), (2, (1, 3, 0))] lv := hin.2.2
    have h0 := q74_lr (a := 3) hL (n := 0) (by simp)
    obtain ⟨C, h1, eC⟩ := q74_li hL (n := 1) (i := 2) (z := c) (by simp) rfl
    obtain ⟨Wv, h2, eW⟩ := q74_li hL (n := 2) (i := 3) (z := w) (by simp) rfl
    have hin19 : q60_in [] M (q70_at 19).2.1 (lv_args 0 [.ref 3]) := ⟨q74_E (l := []) trivial (by decide) (fun f hf => by cases hf), fun r hr => (by cases hr), q74_Lc (n := 0) (L := []) (v := (6, 3, 3)) (x := .ref 3) rfl (q74_gr (a := 3)) q74_L0⟩
    obtain ⟨v, M1, hev, hM1, hJ1, hF1, P, hP, ho⟩ := q74_use hV hM hJ hin19
    rcases List.mem_cons.mp hP with rfl | hP
    · obtain ⟨ρ', -, -, -, hv⟩ := ho
      cases v with
      | none => cases hv
      | some x =>
        have hv : q52_g ρ' (0, 0, 127) x := hv
        obtain ⟨X, rfl, X0, X1⟩ := q54_gi rfl hv
        have ho := q75_o X0 X1 (c := C) (by omega) (by omega)
        obtain ⟨O, eO⟩ : ∃ O, O = q75_oth X C := ⟨_, rfl⟩
        rw [← eO] at ho
        have g : ∀ {j : Nat} {x y z : Value}, q4_get lv j = some x → j ≠ 3 → j ≠ 4 → x.category = 1 → q4_get (q4_st1 (q4_st1 lv 3 y) 4 z) j = some x := fun h a b c => q62_g2 (q62_g2 h c a) c b
        have hp := q75_67 hΓ (o := O.toInt) (b := (q75_bc O).toInt) (X := O) rfl rfl (ρ := [O.toInt, (q75_bc O).toInt, c, w]) (lv := q4_st1 (q4_st1 lv 3 (.int O)) 4 (.int (q75_bc O))) (M := M1) ⟨[c, w], rfl⟩ ⟨q74_E (l := [(0, 127), (0, 6), (0, 6), (0, 1)]) ⟨(by dsimp only; omega), (by dsimp only; omega), B2, B3, trivial⟩ (by decide) (fun f hf => by cases hf), fun r hr => (by cases hr), q74_Lc (g h0 (by decide) (by decide) rfl) (q74_gr (a := 3)) (q74_Lc (g h1 (by decide) (by decide) rfl) (q74_gi (i := 2) (z := c) rfl eC) (q74_Lc (g h2 (by decide) (by decide) rfl) (q74_gi (i := 3) (z := w) rfl eW) (q74_Lc (q62_g2 q62_g1 rfl (by decide)) (q74_gi (i := 0) (z := O.toInt) rfl rfl) (q74_Lc q62_g1 (q74_gi (i := 1) (z := (q75_bc O).toInt) rfl rfl) q74_L0))))⟩ hM1 hJ1
        obtain ⟨f, v, M2, r1, r2, r3, r4, P2, hP2, ρ2, -, -, -, hv2⟩ := hp
        have hev2 : q62_ev 103 67 (q4_st1 (q4_st1 lv 3 (.int O)) 4 (.int (q75_bc O))) [] M1 0 0 (v, M2) := ⟨f, r1⟩
        have hres : q62_ev 103 50 lv [] M 0 0 (v, M2) := by
          refine q62_aload (n := 0) rfl h0 ?_
          refine q62_virt (y := 104) (a := 3) (as := []) (rest := []) (v := some (.int X)) rfl hM rfl rfl (by decide) (by decide) hev ?_
          refine q62_s (i := .bipush 1) rfl rfl ?_
          refine q62_iload (n := 1) rfl h1 ?_
          refine q62_s (i := .ishl) rfl rfl ?_
          refine q62_s (i := .bipush (-1)) rfl rfl ?_
          refine q62_s (i := .ixor) rfl rfl ?_
          refine q62_s (i := .iand) rfl rfl ?_
          show q62_ev 103 60 lv [.int (q75_oth X C)] M1 0 0 (v, M2)
          rw [← eO]
          refine q62_istore (n := 3) rfl (by decide) ?_
          refine q62_iload (n := 3) rfl q62_g1 ?_
          refine q62_stat (y := 63) (as := [.int O]) (rest := []) rfl rfl rfl (of_decide_eq_true rfl) (q75_ev O) ?_
          exact q62_istore (n := 4) rfl (by decide) hev2
        obtain ⟨f3, hf3⟩ := hres
        have w1 : (q70_c q70_px0).2.2.1 = [(93, 0, 6), (95, 0, 3)] := rfl
        have w2 : (q70_at 20).2.2.1 = [(93, 0, 6), (95, 0, 3)] := rfl
        have w3 : (q70_at 19).2.2.1 = [] := rfl
        rw [w1] at r4
        rw [w3] at hF1
        refine ⟨f3, v, M2, hf3, r2, r3, by rw [w2]; exact q57_Ft (q61_Fw (by decide) hF1) r4, q70_p q70_e20_0, .head _, [a0, a1], ?_, ?_, ?_, ?_⟩
        · have e : ρ0 = [a0, a1] := by
            match ρ0, hn, hτ with
            | [x, y], _, hτ =>
              have e1 := congrArg (fun l => l[0]?) hτ
              have e2 := congrArg (fun l => l[1]?) hτ
              simp at e1 e2
              rw [e1, e2]
          rw [e]
          exact q54_er _
        · exact q74_E (l := [(-2147483648, 2147483647), (-2147483648, 2147483647)]) ⟨B0, B1, trivial⟩ (by decide) (fun f hf => by cases hf)
        · intro r hr; cases hr
        · rcases List.mem_cons.mp hP2 with rfl | hP2
          · cases v with
            | none => cases hv2
            | some x =>
              have hv2 : q52_g ρ2 (2, -9223372036854775808, 9223372036854775807) x := hv2
              obtain ⟨z, rfl, z1, z2⟩ := q54_gl rfl hv2
              exact Or.inr (Or.inl ⟨rfl, z, rfl, z1, z2⟩)
          · cases hP2
    · cases hP
theorem q75_V (hΓ : ∀ y c, c ∈ q70_G y → c.1 < 20 → c.2.1 = y ∧ q60_V c.2) (hV : q60_V (q70_at 19)) (hk : q70_ok 20 = true) : q60_V (q70_at 20) := by
  have hk : (q61_rb (q70_at 20) && q50_chkx q70_G [50] 30000 20 (q70_at 20)) = true := hk
  rw [Bool.and_eq_true] at hk
  refine q61_conx hΓ hk.1 hk.2 (fun ρ0 hn q hq hb => ?_)
  rcases List.mem_cons.mp hq with rfl | hq
  · exact q75_50 hΓ hV hn
  · cases hq
