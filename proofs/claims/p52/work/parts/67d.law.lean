/-! the law: its loop, by the pairs of calls -/
theorem ql_i1 {k : Nat} : nI k + Int32.ofInt 1 = nI (k + 1) := qb_s
theorem ql_i2 {k : Nat} : nI k + Int32.ofInt 2 = nI (k + 2) := qb_s2
theorem ql_i3 {k : Nat} : nI k + Int32.ofInt 3 = nI (k + 3) := qb_s3
theorem ql_i4 {k : Nat} : nI k + Int32.ofInt 4 = nI (k + 4) := (Int32.ofNat_add k 4).symm
theorem ql_i5 {k : Nat} : nI k + Int32.ofInt 5 = nI (k + 5) := (Int32.ofNat_add k 5).symm
def ql_S (L : Nat) (xs : Nat → Int32) (M : q4_M) : Prop := (M.2 0).2.1 = L ∧ ∀ j, (M.2 0).2.2 j = .int (xs j)
theorem ql_Sf {L : Nat} {xs : Nat → Int32} {M M' : q4_M} (h : qf_S M M') (hS : ql_S L xs M) : ql_S L xs M' := ⟨h.1.trans hS.1, fun j => (h.2 j).trans (hS.2 j)⟩
theorem ql_ia {pc len ce sl L j : Nat} {xs : Nat → Int32} {lv : List (Nat × Value)} {st : List Value} {M : q4_M} {r : Option Value × q4_M} {x : Int32} (hcd : q4_cd 0 pc = some (.iaload, len)) (hx : x = nI j) (hj : j < L) (hL : L ≤ 2560) (hM : q52_M M) (hS : ql_S L xs M) (hn : q62_ev 0 (pc + len) lv (.int (xs j) :: st) M ce sl r) : q62_ev 0 pc lv (.int x :: .ref 0 :: st) M ce sl r :=
  q62_s hcd (by
    unfold q4_step
    dsimp only
    subst hx
    have e := qb_n (k := j) (by omega)
    rw [if_pos ⟨by rw [hM.1]; decide, hM.2.1, show ¬ nI j < (0 : Int32) from qb_ltF (b := 0) (by omega) (by omega), by rw [e, hS.1]; exact hj⟩, e, hS.2 j]) hn
section QL
variable {L k : Nat} {xs : Nat → Int32} {M : q4_M} {lv : List (Nat × Value)}
/-- how the loop goes on -/
def ql_N (L : Nat) (xs : Nat → Int32) (lv : List (Nat × Value)) (T : Nat) (M : q4_M) : Prop := ∃ M', ql_I M' ∧ ql_S L xs M' ∧ ∀ r, q62_ev 0 1730 lv [] M' 121 21249 r → q62_ev 0 T lv [] M 121 21249 r
theorem ql_c0 (h : ql_I M) (hL : L ≤ 2560) (hS : ql_S L xs M) (hk : k + 5 ≤ L) (g0 : q4_get lv 0 = some (.ref 0)) (g1 : q4_get lv 1 = some (.ref 3)) (g2 : q4_get lv 2 = some (.ref 99)) (g3 : q4_get lv 3 = some (.int (nI k))) : ql_N L xs lv 272 M := by
  have hM := h.1
  obtain ⟨M1, M2, z, z', a1, b1, c1, d1, s1, s2, e1⟩ := qp_8 h (xs (k + 1))
  have S1 := ql_Sf s1 hS
  refine ⟨M2, d1, ql_Sf s2 hS, fun r hr => ?_⟩
  refine q62_aload (n := 1) rfl g1 ?_
  refine q62_aload (n := 0) rfl g0 ?_
  refine q62_iload (n := 3) rfl g3 ?_
  refine q62_s (i := .bipush 1) rfl rfl ?_
  refine q62_s (i := .iadd) rfl rfl ?_
  refine ql_ia (j := k + 1) rfl ql_i1 (by omega) hL hM hS ?_
  refine q62_virt (y := 8) (a := 3) (as := [.int (xs (k + 1))]) (rest := []) (v := some (.int z)) rfl hM rfl rfl (of_decide_eq_true rfl) (by decide) a1 ?_
  refine q62_s (i := .pop) rfl rfl ?_
  refine q62_aload (n := 2) rfl g2 ?_
  refine q62_aload (n := 0) rfl g0 ?_
  refine q62_iload (n := 3) rfl g3 ?_
  refine q62_s (i := .bipush 1) rfl rfl ?_
  refine q62_s (i := .iadd) rfl rfl ?_
  refine ql_ia (j := k + 1) rfl ql_i1 (by omega) hL b1 S1 ?_
  refine q62_virt (y := 151) (a := 99) (as := [.int (xs (k + 1))]) (rest := []) (v := some (.int z')) rfl b1 rfl rfl (of_decide_eq_true rfl) (by decide) c1 ?_
  refine q62_s (i := .pop) rfl rfl ?_
  refine q62_s (i := .goto 1730) rfl rfl ?_
  exact hr
theorem ql_c1 (h : ql_I M) (hL : L ≤ 2560) (hS : ql_S L xs M) (hk : k + 5 ≤ L) (g0 : q4_get lv 0 = some (.ref 0)) (g1 : q4_get lv 1 = some (.ref 3)) (g2 : q4_get lv 2 = some (.ref 99)) (g3 : q4_get lv 3 = some (.int (nI k))) : ql_N L xs lv 295 M := by
  have hM := h.1
  obtain ⟨M1, M2, z, z', a1, b1, c1, d1, s1, s2, e1⟩ := qp_11 h
  have S1 := ql_Sf s1 hS
  refine ⟨M2, d1, ql_Sf s2 hS, fun r hr => ?_⟩
  refine q62_aload (n := 1) rfl g1 ?_
  refine q62_virt (y := 11) (a := 3) (as := []) (rest := []) (v := some (.int z)) rfl hM rfl rfl (of_decide_eq_true rfl) (by decide) a1 ?_
  refine q62_s (i := .pop) rfl rfl ?_
  refine q62_aload (n := 2) rfl g2 ?_
  refine q62_virt (y := 153) (a := 99) (as := []) (rest := []) (v := some (.int z')) rfl b1 rfl rfl (of_decide_eq_true rfl) (by decide) c1 ?_
  refine q62_s (i := .pop) rfl rfl ?_
  refine q62_s (i := .goto 1730) rfl rfl ?_
  exact hr
theorem ql_c2 (h : ql_I M) (hL : L ≤ 2560) (hS : ql_S L xs M) (hk : k + 5 ≤ L) (g0 : q4_get lv 0 = some (.ref 0)) (g1 : q4_get lv 1 = some (.ref 3)) (g2 : q4_get lv 2 = some (.ref 99)) (g3 : q4_get lv 3 = some (.int (nI k))) : ql_N L xs lv 308 M := by
  have hM := h.1
  obtain ⟨M1, M2, z, z', a1, b1, c1, d1, s1, s2, e1⟩ := qp_31 h (xs (k + 1)) (xs (k + 2))
  have S1 := ql_Sf s1 hS
  refine ⟨M2, d1, ql_Sf s2 hS, fun r hr => ?_⟩
  refine q62_aload (n := 1) rfl g1 ?_
  refine q62_aload (n := 0) rfl g0 ?_
  refine q62_iload (n := 3) rfl g3 ?_
  refine q62_s (i := .bipush 1) rfl rfl ?_
  refine q62_s (i := .iadd) rfl rfl ?_
  refine ql_ia (j := k + 1) rfl ql_i1 (by omega) hL hM hS ?_
  refine q62_aload (n := 0) rfl g0 ?_
  refine q62_iload (n := 3) rfl g3 ?_
  refine q62_s (i := .bipush 2) rfl rfl ?_
  refine q62_s (i := .iadd) rfl rfl ?_
  refine ql_ia (j := k + 2) rfl ql_i2 (by omega) hL hM hS ?_
  refine q62_virt (y := 31) (a := 3) (as := [.int (xs (k + 1)), .int (xs (k + 2))]) (rest := []) (v := some (.int z)) rfl hM rfl rfl (of_decide_eq_true rfl) (by decide) a1 ?_
  refine q62_s (i := .pop) rfl rfl ?_
  refine q62_aload (n := 2) rfl g2 ?_
  refine q62_aload (n := 0) rfl g0 ?_
  refine q62_iload (n := 3) rfl g3 ?_
  refine q62_s (i := .bipush 1) rfl rfl ?_
  refine q62_s (i := .iadd) rfl rfl ?_
  refine ql_ia (j := k + 1) rfl ql_i1 (by omega) hL b1 S1 ?_
  refine q62_aload (n := 0) rfl g0 ?_
  refine q62_iload (n := 3) rfl g3 ?_
  refine q62_s (i := .bipush 2) rfl rfl ?_
  refine q62_s (i := .iadd) rfl rfl ?_
  refine ql_ia (j := k + 2) rfl ql_i2 (by omega) hL b1 S1 ?_
  refine q62_virt (y := 169) (a := 99) (as := [.int (xs (k + 1)), .int (xs (k + 2))]) (rest := []) (v := some (.int z')) rfl b1 rfl rfl (of_decide_eq_true rfl) (by decide) c1 ?_
  refine q62_s (i := .pop) rfl rfl ?_
  refine q62_s (i := .goto 1730) rfl rfl ?_
  exact hr
theorem ql_c3 (h : ql_I M) (hL : L ≤ 2560) (hS : ql_S L xs M) (hk : k + 5 ≤ L) (g0 : q4_get lv 0 = some (.ref 0)) (g1 : q4_get lv 1 = some (.ref 3)) (g2 : q4_get lv 2 = some (.ref 99)) (g3 : q4_get lv 3 = some (.int (nI k))) : ql_N L xs lv 341 M := by
  have hM := h.1
  obtain ⟨M1, M2, z, z', a1, b1, c1, d1, s1, s2, e1⟩ := qp_32 h (xs (k + 1)) (xs (k + 2))
  have S1 := ql_Sf s1 hS
  refine ⟨M2, d1, ql_Sf s2 hS, fun r hr => ?_⟩
  refine q62_aload (n := 1) rfl g1 ?_
  refine q62_aload (n := 0) rfl g0 ?_
  refine q62_iload (n := 3) rfl g3 ?_
  refine q62_s (i := .bipush 1) rfl rfl ?_
  refine q62_s (i := .iadd) rfl rfl ?_
  refine ql_ia (j := k + 1) rfl ql_i1 (by omega) hL hM hS ?_
  refine q62_aload (n := 0) rfl g0 ?_
  refine q62_iload (n := 3) rfl g3 ?_
  refine q62_s (i := .bipush 2) rfl rfl ?_
  refine q62_s (i := .iadd) rfl rfl ?_
  refine ql_ia (j := k + 2) rfl ql_i2 (by omega) hL hM hS ?_
  refine q62_virt (y := 32) (a := 3) (as := [.int (xs (k + 1)), .int (xs (k + 2))]) (rest := []) (v := some (.int z)) rfl hM rfl rfl (of_decide_eq_true rfl) (by decide) a1 ?_
  refine q62_s (i := .pop) rfl rfl ?_
  refine q62_aload (n := 2) rfl g2 ?_
  refine q62_aload (n := 0) rfl g0 ?_
  refine q62_iload (n := 3) rfl g3 ?_
  refine q62_s (i := .bipush 1) rfl rfl ?_
  refine q62_s (i := .iadd) rfl rfl ?_
  refine ql_ia (j := k + 1) rfl ql_i1 (by omega) hL b1 S1 ?_
  refine q62_aload (n := 0) rfl g0 ?_
  refine q62_iload (n := 3) rfl g3 ?_
  refine q62_s (i := .bipush 2) rfl rfl ?_
  refine q62_s (i := .iadd) rfl rfl ?_
  refine ql_ia (j := k + 2) rfl ql_i2 (by omega) hL b1 S1 ?_
  refine q62_virt (y := 170) (a := 99) (as := [.int (xs (k + 1)), .int (xs (k + 2))]) (rest := []) (v := some (.int z')) rfl b1 rfl rfl (of_decide_eq_true rfl) (by decide) c1 ?_
  refine q62_s (i := .pop) rfl rfl ?_
  refine q62_s (i := .goto 1730) rfl rfl ?_
  exact hr
theorem ql_c4 (h : ql_I M) (hL : L ≤ 2560) (hS : ql_S L xs M) (hk : k + 5 ≤ L) (g0 : q4_get lv 0 = some (.ref 0)) (g1 : q4_get lv 1 = some (.ref 3)) (g2 : q4_get lv 2 = some (.ref 99)) (g3 : q4_get lv 3 = some (.int (nI k))) : ql_N L xs lv 374 M := by
  have hM := h.1
  obtain ⟨M1, M2, z, z', a1, b1, c1, d1, s1, s2, e1⟩ := qp_34 h (xs (k + 1)) (xs (k + 2)) (xs (k + 3))
  have S1 := ql_Sf s1 hS
  refine ⟨M2, d1, ql_Sf s2 hS, fun r hr => ?_⟩
  refine q62_aload (n := 1) rfl g1 ?_
  refine q62_aload (n := 0) rfl g0 ?_
  refine q62_iload (n := 3) rfl g3 ?_
  refine q62_s (i := .bipush 1) rfl rfl ?_
  refine q62_s (i := .iadd) rfl rfl ?_
  refine ql_ia (j := k + 1) rfl ql_i1 (by omega) hL hM hS ?_
  refine q62_aload (n := 0) rfl g0 ?_
  refine q62_iload (n := 3) rfl g3 ?_
  refine q62_s (i := .bipush 2) rfl rfl ?_
  refine q62_s (i := .iadd) rfl rfl ?_
  refine ql_ia (j := k + 2) rfl ql_i2 (by omega) hL hM hS ?_
  refine q62_aload (n := 0) rfl g0 ?_
  refine q62_iload (n := 3) rfl g3 ?_
  refine q62_s (i := .bipush 3) rfl rfl ?_
  refine q62_s (i := .iadd) rfl rfl ?_
  refine ql_ia (j := k + 3) rfl ql_i3 (by omega) hL hM hS ?_
  refine q62_virt (y := 34) (a := 3) (as := [.int (xs (k + 1)), .int (xs (k + 2)), .int (xs (k + 3))]) (rest := []) (v := some (.int z)) rfl hM rfl rfl (of_decide_eq_true rfl) (by decide) a1 ?_
  refine q62_s (i := .pop) rfl rfl ?_
  refine q62_aload (n := 2) rfl g2 ?_
  refine q62_aload (n := 0) rfl g0 ?_
  refine q62_iload (n := 3) rfl g3 ?_
  refine q62_s (i := .bipush 1) rfl rfl ?_
  refine q62_s (i := .iadd) rfl rfl ?_
  refine ql_ia (j := k + 1) rfl ql_i1 (by omega) hL b1 S1 ?_
  refine q62_aload (n := 0) rfl g0 ?_
  refine q62_iload (n := 3) rfl g3 ?_
  refine q62_s (i := .bipush 2) rfl rfl ?_
  refine q62_s (i := .iadd) rfl rfl ?_
  refine ql_ia (j := k + 2) rfl ql_i2 (by omega) hL b1 S1 ?_
  refine q62_aload (n := 0) rfl g0 ?_
  refine q62_iload (n := 3) rfl g3 ?_
  refine q62_s (i := .bipush 3) rfl rfl ?_
  refine q62_s (i := .iadd) rfl rfl ?_
  refine ql_ia (j := k + 3) rfl ql_i3 (by omega) hL b1 S1 ?_
  refine q62_virt (y := 172) (a := 99) (as := [.int (xs (k + 1)), .int (xs (k + 2)), .int (xs (k + 3))]) (rest := []) (v := some (.int z')) rfl b1 rfl rfl (of_decide_eq_true rfl) (by decide) c1 ?_
  refine q62_s (i := .pop) rfl rfl ?_
  refine q62_s (i := .goto 1730) rfl rfl ?_
  exact hr
theorem ql_c5 (h : ql_I M) (hL : L ≤ 2560) (hS : ql_S L xs M) (hk : k + 5 ≤ L) (g0 : q4_get lv 0 = some (.ref 0)) (g1 : q4_get lv 1 = some (.ref 3)) (g2 : q4_get lv 2 = some (.ref 99)) (g3 : q4_get lv 3 = some (.int (nI k))) : ql_N L xs lv 417 M := by
  have hM := h.1
  obtain ⟨M1, M2, z, z', a1, b1, c1, d1, s1, s2, e1⟩ := qp_35 h (xs (k + 1)) (xs (k + 2)) (xs (k + 3))
  have S1 := ql_Sf s1 hS
  refine ⟨M2, d1, ql_Sf s2 hS, fun r hr => ?_⟩
  refine q62_aload (n := 1) rfl g1 ?_
  refine q62_aload (n := 0) rfl g0 ?_
  refine q62_iload (n := 3) rfl g3 ?_
  refine q62_s (i := .bipush 1) rfl rfl ?_
  refine q62_s (i := .iadd) rfl rfl ?_
  refine ql_ia (j := k + 1) rfl ql_i1 (by omega) hL hM hS ?_
  refine q62_aload (n := 0) rfl g0 ?_
  refine q62_iload (n := 3) rfl g3 ?_
  refine q62_s (i := .bipush 2) rfl rfl ?_
  refine q62_s (i := .iadd) rfl rfl ?_
  refine ql_ia (j := k + 2) rfl ql_i2 (by omega) hL hM hS ?_
  refine q62_aload (n := 0) rfl g0 ?_
  refine q62_iload (n := 3) rfl g3 ?_
  refine q62_s (i := .bipush 3) rfl rfl ?_
  refine q62_s (i := .iadd) rfl rfl ?_
  refine ql_ia (j := k + 3) rfl ql_i3 (by omega) hL hM hS ?_
  refine q62_virt (y := 35) (a := 3) (as := [.int (xs (k + 1)), .int (xs (k + 2)), .int (xs (k + 3))]) (rest := []) (v := some (.int z)) rfl hM rfl rfl (of_decide_eq_true rfl) (by decide) a1 ?_
  refine q62_s (i := .pop) rfl rfl ?_
  refine q62_aload (n := 2) rfl g2 ?_
  refine q62_aload (n := 0) rfl g0 ?_
  refine q62_iload (n := 3) rfl g3 ?_
  refine q62_s (i := .bipush 1) rfl rfl ?_
  refine q62_s (i := .iadd) rfl rfl ?_
  refine ql_ia (j := k + 1) rfl ql_i1 (by omega) hL b1 S1 ?_
  refine q62_aload (n := 0) rfl g0 ?_
  refine q62_iload (n := 3) rfl g3 ?_
  refine q62_s (i := .bipush 2) rfl rfl ?_
  refine q62_s (i := .iadd) rfl rfl ?_
  refine ql_ia (j := k + 2) rfl ql_i2 (by omega) hL b1 S1 ?_
  refine q62_aload (n := 0) rfl g0 ?_
  refine q62_iload (n := 3) rfl g3 ?_
  refine q62_s (i := .bipush 3) rfl rfl ?_
  refine q62_s (i := .iadd) rfl rfl ?_
  refine ql_ia (j := k + 3) rfl ql_i3 (by omega) hL b1 S1 ?_
  refine q62_virt (y := 173) (a := 99) (as := [.int (xs (k + 1)), .int (xs (k + 2)), .int (xs (k + 3))]) (rest := []) (v := some (.int z')) rfl b1 rfl rfl (of_decide_eq_true rfl) (by decide) c1 ?_
  refine q62_s (i := .pop) rfl rfl ?_
  refine q62_s (i := .goto 1730) rfl rfl ?_
  exact hr
theorem ql_c6 (h : ql_I M) (hL : L ≤ 2560) (hS : ql_S L xs M) (hk : k + 5 ≤ L) (g0 : q4_get lv 0 = some (.ref 0)) (g1 : q4_get lv 1 = some (.ref 3)) (g2 : q4_get lv 2 = some (.ref 99)) (g3 : q4_get lv 3 = some (.int (nI k))) : ql_N L xs lv 460 M := by
  have hM := h.1
  obtain ⟨M1, M2, z, z', a1, b1, c1, d1, s1, s2, e1⟩ := qp_36 h (xs (k + 1)) (xs (k + 2))
  have S1 := ql_Sf s1 hS
  refine ⟨M2, d1, ql_Sf s2 hS, fun r hr => ?_⟩
  refine q62_aload (n := 1) rfl g1 ?_
  refine q62_aload (n := 0) rfl g0 ?_
  refine q62_iload (n := 3) rfl g3 ?_
  refine q62_s (i := .bipush 1) rfl rfl ?_
  refine q62_s (i := .iadd) rfl rfl ?_
  refine ql_ia (j := k + 1) rfl ql_i1 (by omega) hL hM hS ?_
  refine q62_aload (n := 0) rfl g0 ?_
  refine q62_iload (n := 3) rfl g3 ?_
  refine q62_s (i := .bipush 2) rfl rfl ?_
  refine q62_s (i := .iadd) rfl rfl ?_
  refine ql_ia (j := k + 2) rfl ql_i2 (by omega) hL hM hS ?_
  refine q62_virt (y := 36) (a := 3) (as := [.int (xs (k + 1)), .int (xs (k + 2))]) (rest := []) (v := some (.int z)) rfl hM rfl rfl (of_decide_eq_true rfl) (by decide) a1 ?_
  refine q62_s (i := .pop) rfl rfl ?_
  refine q62_aload (n := 2) rfl g2 ?_
  refine q62_aload (n := 0) rfl g0 ?_
  refine q62_iload (n := 3) rfl g3 ?_
  refine q62_s (i := .bipush 1) rfl rfl ?_
  refine q62_s (i := .iadd) rfl rfl ?_
  refine ql_ia (j := k + 1) rfl ql_i1 (by omega) hL b1 S1 ?_
  refine q62_aload (n := 0) rfl g0 ?_
  refine q62_iload (n := 3) rfl g3 ?_
  refine q62_s (i := .bipush 2) rfl rfl ?_
  refine q62_s (i := .iadd) rfl rfl ?_
  refine ql_ia (j := k + 2) rfl ql_i2 (by omega) hL b1 S1 ?_
  refine q62_virt (y := 174) (a := 99) (as := [.int (xs (k + 1)), .int (xs (k + 2))]) (rest := []) (v := some (.int z')) rfl b1 rfl rfl (of_decide_eq_true rfl) (by decide) c1 ?_
  refine q62_s (i := .pop) rfl rfl ?_
  refine q62_s (i := .goto 1730) rfl rfl ?_
  exact hr
theorem ql_c7 (h : ql_I M) (hL : L ≤ 2560) (hS : ql_S L xs M) (hk : k + 5 ≤ L) (g0 : q4_get lv 0 = some (.ref 0)) (g1 : q4_get lv 1 = some (.ref 3)) (g2 : q4_get lv 2 = some (.ref 99)) (g3 : q4_get lv 3 = some (.int (nI k))) : ql_N L xs lv 493 M := by
  have hM := h.1
  obtain ⟨M1, M2, z, z', a1, b1, c1, d1, s1, s2, e1⟩ := qp_39 h (xs (k + 1)) (xs (k + 2)) (xs (k + 3))
  have S1 := ql_Sf s1 hS
  refine ⟨M2, d1, ql_Sf s2 hS, fun r hr => ?_⟩
  refine q62_aload (n := 1) rfl g1 ?_
  refine q62_aload (n := 0) rfl g0 ?_
  refine q62_iload (n := 3) rfl g3 ?_
  refine q62_s (i := .bipush 1) rfl rfl ?_
  refine q62_s (i := .iadd) rfl rfl ?_
  refine ql_ia (j := k + 1) rfl ql_i1 (by omega) hL hM hS ?_
  refine q62_aload (n := 0) rfl g0 ?_
  refine q62_iload (n := 3) rfl g3 ?_
  refine q62_s (i := .bipush 2) rfl rfl ?_
  refine q62_s (i := .iadd) rfl rfl ?_
  refine ql_ia (j := k + 2) rfl ql_i2 (by omega) hL hM hS ?_
  refine q62_aload (n := 0) rfl g0 ?_
  refine q62_iload (n := 3) rfl g3 ?_
  refine q62_s (i := .bipush 3) rfl rfl ?_
  refine q62_s (i := .iadd) rfl rfl ?_
  refine ql_ia (j := k + 3) rfl ql_i3 (by omega) hL hM hS ?_
  refine q62_virt (y := 39) (a := 3) (as := [.int (xs (k + 1)), .int (xs (k + 2)), .int (xs (k + 3))]) (rest := []) (v := some (.int z)) rfl hM rfl rfl (of_decide_eq_true rfl) (by decide) a1 ?_
  refine q62_s (i := .pop) rfl rfl ?_
  refine q62_aload (n := 2) rfl g2 ?_
  refine q62_aload (n := 0) rfl g0 ?_
  refine q62_iload (n := 3) rfl g3 ?_
  refine q62_s (i := .bipush 1) rfl rfl ?_
  refine q62_s (i := .iadd) rfl rfl ?_
  refine ql_ia (j := k + 1) rfl ql_i1 (by omega) hL b1 S1 ?_
  refine q62_aload (n := 0) rfl g0 ?_
  refine q62_iload (n := 3) rfl g3 ?_
  refine q62_s (i := .bipush 2) rfl rfl ?_
  refine q62_s (i := .iadd) rfl rfl ?_
  refine ql_ia (j := k + 2) rfl ql_i2 (by omega) hL b1 S1 ?_
  refine q62_aload (n := 0) rfl g0 ?_
  refine q62_iload (n := 3) rfl g3 ?_
  refine q62_s (i := .bipush 3) rfl rfl ?_
  refine q62_s (i := .iadd) rfl rfl ?_
  refine ql_ia (j := k + 3) rfl ql_i3 (by omega) hL b1 S1 ?_
  refine q62_virt (y := 177) (a := 99) (as := [.int (xs (k + 1)), .int (xs (k + 2)), .int (xs (k + 3))]) (rest := []) (v := some (.int z')) rfl b1 rfl rfl (of_decide_eq_true rfl) (by decide) c1 ?_
  refine q62_s (i := .pop) rfl rfl ?_
  refine q62_s (i := .goto 1730) rfl rfl ?_
  exact hr
theorem ql_c8 (h : ql_I M) (hL : L ≤ 2560) (hS : ql_S L xs M) (hk : k + 5 ≤ L) (g0 : q4_get lv 0 = some (.ref 0)) (g1 : q4_get lv 1 = some (.ref 3)) (g2 : q4_get lv 2 = some (.ref 99)) (g3 : q4_get lv 3 = some (.int (nI k))) : ql_N L xs lv 536 M := by
  have hM := h.1
  obtain ⟨M1, M2, z, z', a1, b1, c1, d1, s1, s2, e1⟩ := qp_40 h (xs (k + 1)) (xs (k + 2)) (xs (k + 3))
  have S1 := ql_Sf s1 hS
  refine ⟨M2, d1, ql_Sf s2 hS, fun r hr => ?_⟩
  refine q62_aload (n := 1) rfl g1 ?_
  refine q62_aload (n := 0) rfl g0 ?_
  refine q62_iload (n := 3) rfl g3 ?_
  refine q62_s (i := .bipush 1) rfl rfl ?_
  refine q62_s (i := .iadd) rfl rfl ?_
  refine ql_ia (j := k + 1) rfl ql_i1 (by omega) hL hM hS ?_
  refine q62_aload (n := 0) rfl g0 ?_
  refine q62_iload (n := 3) rfl g3 ?_
  refine q62_s (i := .bipush 2) rfl rfl ?_
  refine q62_s (i := .iadd) rfl rfl ?_
  refine ql_ia (j := k + 2) rfl ql_i2 (by omega) hL hM hS ?_
  refine q62_aload (n := 0) rfl g0 ?_
  refine q62_iload (n := 3) rfl g3 ?_
  refine q62_s (i := .bipush 3) rfl rfl ?_
  refine q62_s (i := .iadd) rfl rfl ?_
  refine ql_ia (j := k + 3) rfl ql_i3 (by omega) hL hM hS ?_
  refine q62_virt (y := 40) (a := 3) (as := [.int (xs (k + 1)), .int (xs (k + 2)), .int (xs (k + 3))]) (rest := []) (v := some (.int z)) rfl hM rfl rfl (of_decide_eq_true rfl) (by decide) a1 ?_
  refine q62_s (i := .pop) rfl rfl ?_
  refine q62_aload (n := 2) rfl g2 ?_
  refine q62_aload (n := 0) rfl g0 ?_
  refine q62_iload (n := 3) rfl g3 ?_
  refine q62_s (i := .bipush 1) rfl rfl ?_
  refine q62_s (i := .iadd) rfl rfl ?_
  refine ql_ia (j := k + 1) rfl ql_i1 (by omega) hL b1 S1 ?_
  refine q62_aload (n := 0) rfl g0 ?_
  refine q62_iload (n := 3) rfl g3 ?_
  refine q62_s (i := .bipush 2) rfl rfl ?_
  refine q62_s (i := .iadd) rfl rfl ?_
  refine ql_ia (j := k + 2) rfl ql_i2 (by omega) hL b1 S1 ?_
  refine q62_aload (n := 0) rfl g0 ?_
  refine q62_iload (n := 3) rfl g3 ?_
  refine q62_s (i := .bipush 3) rfl rfl ?_
  refine q62_s (i := .iadd) rfl rfl ?_
  refine ql_ia (j := k + 3) rfl ql_i3 (by omega) hL b1 S1 ?_
  refine q62_virt (y := 178) (a := 99) (as := [.int (xs (k + 1)), .int (xs (k + 2)), .int (xs (k + 3))]) (rest := []) (v := some (.int z')) rfl b1 rfl rfl (of_decide_eq_true rfl) (by decide) c1 ?_
  refine q62_s (i := .pop) rfl rfl ?_
  refine q62_s (i := .goto 1730) rfl rfl ?_
  exact hr
theorem ql_c9 (h : ql_I M) (hL : L ≤ 2560) (hS : ql_S L xs M) (hk : k + 5 ≤ L) (g0 : q4_get lv 0 = some (.ref 0)) (g1 : q4_get lv 1 = some (.ref 3)) (g2 : q4_get lv 2 = some (.ref 99)) (g3 : q4_get lv 3 = some (.int (nI k))) : ql_N L xs lv 579 M := by
  have hM := h.1
  obtain ⟨M1, M2, z, z', a1, b1, c1, d1, s1, s2, e1⟩ := qp_41 h
  have S1 := ql_Sf s1 hS
  refine ⟨M2, d1, ql_Sf s2 hS, fun r hr => ?_⟩
  refine q62_aload (n := 1) rfl g1 ?_
  refine q62_virt (y := 41) (a := 3) (as := []) (rest := []) (v := some (.int z)) rfl hM rfl rfl (of_decide_eq_true rfl) (by decide) a1 ?_
  refine q62_s (i := .pop) rfl rfl ?_
  refine q62_aload (n := 2) rfl g2 ?_
  refine q62_virt (y := 168) (a := 99) (as := []) (rest := []) (v := some (.int z')) rfl b1 rfl rfl (of_decide_eq_true rfl) (by decide) c1 ?_
  refine q62_s (i := .pop) rfl rfl ?_
  refine q62_s (i := .goto 1730) rfl rfl ?_
  exact hr
theorem ql_c10 (h : ql_I M) (hL : L ≤ 2560) (hS : ql_S L xs M) (hk : k + 5 ≤ L) (g0 : q4_get lv 0 = some (.ref 0)) (g1 : q4_get lv 1 = some (.ref 3)) (g2 : q4_get lv 2 = some (.ref 99)) (g3 : q4_get lv 3 = some (.int (nI k))) : ql_N L xs lv 592 M := by
  have hM := h.1
  obtain ⟨M1, M2, z, z', a1, b1, c1, d1, s1, s2⟩ := qp_43 h (xs (k + 1)) (xs (k + 2))
  have S1 := ql_Sf s1 hS
  refine ⟨M2, d1, ql_Sf s2 hS, fun r hr => ?_⟩
  refine q62_aload (n := 1) rfl g1 ?_
  refine q62_aload (n := 0) rfl g0 ?_
  refine q62_iload (n := 3) rfl g3 ?_
  refine q62_s (i := .bipush 1) rfl rfl ?_
  refine q62_s (i := .iadd) rfl rfl ?_
  refine ql_ia (j := k + 1) rfl ql_i1 (by omega) hL hM hS ?_
  refine q62_aload (n := 0) rfl g0 ?_
  refine q62_iload (n := 3) rfl g3 ?_
  refine q62_s (i := .bipush 2) rfl rfl ?_
  refine q62_s (i := .iadd) rfl rfl ?_
  refine ql_ia (j := k + 2) rfl ql_i2 (by omega) hL hM hS ?_
  refine q62_virt (y := 43) (a := 3) (as := [.int (xs (k + 1)), .int (xs (k + 2))]) (rest := []) (v := some (.int z)) rfl hM rfl rfl (of_decide_eq_true rfl) (by decide) a1 ?_
  refine q62_s (i := .pop) rfl rfl ?_
  refine q62_aload (n := 2) rfl g2 ?_
  refine q62_aload (n := 0) rfl g0 ?_
  refine q62_iload (n := 3) rfl g3 ?_
  refine q62_s (i := .bipush 1) rfl rfl ?_
  refine q62_s (i := .iadd) rfl rfl ?_
  refine ql_ia (j := k + 1) rfl ql_i1 (by omega) hL b1 S1 ?_
  refine q62_aload (n := 0) rfl g0 ?_
  refine q62_iload (n := 3) rfl g3 ?_
  refine q62_s (i := .bipush 2) rfl rfl ?_
  refine q62_s (i := .iadd) rfl rfl ?_
  refine ql_ia (j := k + 2) rfl ql_i2 (by omega) hL b1 S1 ?_
  refine q62_virt (y := 179) (a := 99) (as := [.int (xs (k + 1)), .int (xs (k + 2))]) (rest := []) (v := some (.int z')) rfl b1 rfl rfl (of_decide_eq_true rfl) (by decide) c1 ?_
  refine q62_s (i := .pop) rfl rfl ?_
  refine q62_s (i := .goto 1730) rfl rfl ?_
  exact hr
theorem ql_c11 (h : ql_I M) (hL : L ≤ 2560) (hS : ql_S L xs M) (hk : k + 5 ≤ L) (g0 : q4_get lv 0 = some (.ref 0)) (g1 : q4_get lv 1 = some (.ref 3)) (g2 : q4_get lv 2 = some (.ref 99)) (g3 : q4_get lv 3 = some (.int (nI k))) : ql_N L xs lv 625 M := by
  have hM := h.1
  obtain ⟨M1, M2, z, z', a1, b1, c1, d1, s1, s2⟩ := qp_49 h (xs (k + 1)) (xs (k + 2)) (xs (k + 3))
  have S1 := ql_Sf s1 hS
  refine ⟨M2, d1, ql_Sf s2 hS, fun r hr => ?_⟩
  refine q62_aload (n := 1) rfl g1 ?_
  refine q62_aload (n := 0) rfl g0 ?_
  refine q62_iload (n := 3) rfl g3 ?_
  refine q62_s (i := .bipush 1) rfl rfl ?_
  refine q62_s (i := .iadd) rfl rfl ?_
  refine ql_ia (j := k + 1) rfl ql_i1 (by omega) hL hM hS ?_
  refine q62_aload (n := 0) rfl g0 ?_
  refine q62_iload (n := 3) rfl g3 ?_
  refine q62_s (i := .bipush 2) rfl rfl ?_
  refine q62_s (i := .iadd) rfl rfl ?_
  refine ql_ia (j := k + 2) rfl ql_i2 (by omega) hL hM hS ?_
  refine q62_aload (n := 0) rfl g0 ?_
  refine q62_iload (n := 3) rfl g3 ?_
  refine q62_s (i := .bipush 3) rfl rfl ?_
  refine q62_s (i := .iadd) rfl rfl ?_
  refine ql_ia (j := k + 3) rfl ql_i3 (by omega) hL hM hS ?_
  refine q62_virt (y := 49) (a := 3) (as := [.int (xs (k + 1)), .int (xs (k + 2)), .int (xs (k + 3))]) (rest := []) (v := some (.int z)) rfl hM rfl rfl (of_decide_eq_true rfl) (by decide) a1 ?_
  refine q62_s (i := .pop) rfl rfl ?_
  refine q62_aload (n := 2) rfl g2 ?_
  refine q62_aload (n := 0) rfl g0 ?_
  refine q62_iload (n := 3) rfl g3 ?_
  refine q62_s (i := .bipush 1) rfl rfl ?_
  refine q62_s (i := .iadd) rfl rfl ?_
  refine ql_ia (j := k + 1) rfl ql_i1 (by omega) hL b1 S1 ?_
  refine q62_aload (n := 0) rfl g0 ?_
  refine q62_iload (n := 3) rfl g3 ?_
  refine q62_s (i := .bipush 2) rfl rfl ?_
  refine q62_s (i := .iadd) rfl rfl ?_
  refine ql_ia (j := k + 2) rfl ql_i2 (by omega) hL b1 S1 ?_
  refine q62_aload (n := 0) rfl g0 ?_
  refine q62_iload (n := 3) rfl g3 ?_
  refine q62_s (i := .bipush 3) rfl rfl ?_
  refine q62_s (i := .iadd) rfl rfl ?_
  refine ql_ia (j := k + 3) rfl ql_i3 (by omega) hL b1 S1 ?_
  refine q62_virt (y := 184) (a := 99) (as := [.int (xs (k + 1)), .int (xs (k + 2)), .int (xs (k + 3))]) (rest := []) (v := some (.int z')) rfl b1 rfl rfl (of_decide_eq_true rfl) (by decide) c1 ?_
  refine q62_s (i := .pop) rfl rfl ?_
  refine q62_s (i := .goto 1730) rfl rfl ?_
  exact hr
theorem ql_c12 (h : ql_I M) (hL : L ≤ 2560) (hS : ql_S L xs M) (hk : k + 5 ≤ L) (g0 : q4_get lv 0 = some (.ref 0)) (g1 : q4_get lv 1 = some (.ref 3)) (g2 : q4_get lv 2 = some (.ref 99)) (g3 : q4_get lv 3 = some (.int (nI k))) : ql_N L xs lv 668 M := by
  have hM := h.1
  obtain ⟨M1, M2, z, z', a1, b1, c1, d1, s1, s2⟩ := qp_51 h (xs (k + 1)) (xs (k + 2)) (xs (k + 3))
  have S1 := ql_Sf s1 hS
  refine ⟨M2, d1, ql_Sf s2 hS, fun r hr => ?_⟩
  refine q62_aload (n := 1) rfl g1 ?_
  refine q62_aload (n := 0) rfl g0 ?_
  refine q62_iload (n := 3) rfl g3 ?_
  refine q62_s (i := .bipush 1) rfl rfl ?_
  refine q62_s (i := .iadd) rfl rfl ?_
  refine ql_ia (j := k + 1) rfl ql_i1 (by omega) hL hM hS ?_
  refine q62_aload (n := 0) rfl g0 ?_
  refine q62_iload (n := 3) rfl g3 ?_
  refine q62_s (i := .bipush 2) rfl rfl ?_
  refine q62_s (i := .iadd) rfl rfl ?_
  refine ql_ia (j := k + 2) rfl ql_i2 (by omega) hL hM hS ?_
  refine q62_aload (n := 0) rfl g0 ?_
  refine q62_iload (n := 3) rfl g3 ?_
  refine q62_s (i := .bipush 3) rfl rfl ?_
  refine q62_s (i := .iadd) rfl rfl ?_
  refine ql_ia (j := k + 3) rfl ql_i3 (by omega) hL hM hS ?_
  refine q62_virt (y := 51) (a := 3) (as := [.int (xs (k + 1)), .int (xs (k + 2)), .int (xs (k + 3))]) (rest := []) (v := some (.int z)) rfl hM rfl rfl (of_decide_eq_true rfl) (by decide) a1 ?_
  refine q62_s (i := .pop) rfl rfl ?_
  refine q62_aload (n := 2) rfl g2 ?_
  refine q62_aload (n := 0) rfl g0 ?_
  refine q62_iload (n := 3) rfl g3 ?_
  refine q62_s (i := .bipush 1) rfl rfl ?_
  refine q62_s (i := .iadd) rfl rfl ?_
  refine ql_ia (j := k + 1) rfl ql_i1 (by omega) hL b1 S1 ?_
  refine q62_aload (n := 0) rfl g0 ?_
  refine q62_iload (n := 3) rfl g3 ?_
  refine q62_s (i := .bipush 2) rfl rfl ?_
  refine q62_s (i := .iadd) rfl rfl ?_
  refine ql_ia (j := k + 2) rfl ql_i2 (by omega) hL b1 S1 ?_
  refine q62_aload (n := 0) rfl g0 ?_
  refine q62_iload (n := 3) rfl g3 ?_
  refine q62_s (i := .bipush 3) rfl rfl ?_
  refine q62_s (i := .iadd) rfl rfl ?_
  refine ql_ia (j := k + 3) rfl ql_i3 (by omega) hL b1 S1 ?_
  refine q62_virt (y := 187) (a := 99) (as := [.int (xs (k + 1)), .int (xs (k + 2)), .int (xs (k + 3))]) (rest := []) (v := some (.int z')) rfl b1 rfl rfl (of_decide_eq_true rfl) (by decide) c1 ?_
  refine q62_s (i := .pop) rfl rfl ?_
  refine q62_s (i := .goto 1730) rfl rfl ?_
  exact hr
theorem ql_c13 (h : ql_I M) (hL : L ≤ 2560) (hS : ql_S L xs M) (hk : k + 5 ≤ L) (g0 : q4_get lv 0 = some (.ref 0)) (g1 : q4_get lv 1 = some (.ref 3)) (g2 : q4_get lv 2 = some (.ref 99)) (g3 : q4_get lv 3 = some (.int (nI k))) : ql_N L xs lv 711 M := by
  have hM := h.1
  obtain ⟨M1, M2, z, z', a1, b1, c1, d1, s1, s2⟩ := qp_56 h (xs (k + 1))
  have S1 := ql_Sf s1 hS
  refine ⟨M2, d1, ql_Sf s2 hS, fun r hr => ?_⟩
  refine q62_aload (n := 1) rfl g1 ?_
  refine q62_aload (n := 0) rfl g0 ?_
  refine q62_iload (n := 3) rfl g3 ?_
  refine q62_s (i := .bipush 1) rfl rfl ?_
  refine q62_s (i := .iadd) rfl rfl ?_
  refine ql_ia (j := k + 1) rfl ql_i1 (by omega) hL hM hS ?_
  refine q62_virt (y := 56) (a := 3) (as := [.int (xs (k + 1))]) (rest := []) (v := some (.int z)) rfl hM rfl rfl (of_decide_eq_true rfl) (by decide) a1 ?_
  refine q62_s (i := .pop) rfl rfl ?_
  refine q62_aload (n := 2) rfl g2 ?_
  refine q62_aload (n := 0) rfl g0 ?_
  refine q62_iload (n := 3) rfl g3 ?_
  refine q62_s (i := .bipush 1) rfl rfl ?_
  refine q62_s (i := .iadd) rfl rfl ?_
  refine ql_ia (j := k + 1) rfl ql_i1 (by omega) hL b1 S1 ?_
  refine q62_virt (y := 189) (a := 99) (as := [.int (xs (k + 1))]) (rest := []) (v := some (.int z')) rfl b1 rfl rfl (of_decide_eq_true rfl) (by decide) c1 ?_
  refine q62_s (i := .pop) rfl rfl ?_
  refine q62_s (i := .goto 1730) rfl rfl ?_
  exact hr
theorem ql_c14 (h : ql_I M) (hL : L ≤ 2560) (hS : ql_S L xs M) (hk : k + 5 ≤ L) (g0 : q4_get lv 0 = some (.ref 0)) (g1 : q4_get lv 1 = some (.ref 3)) (g2 : q4_get lv 2 = some (.ref 99)) (g3 : q4_get lv 3 = some (.int (nI k))) : ql_N L xs lv 734 M := by
  have hM := h.1
  obtain ⟨M1, M2, z, z', a1, b1, c1, d1, s1, s2⟩ := qp_64 h (xs (k + 1))
  have S1 := ql_Sf s1 hS
  refine ⟨M2, d1, ql_Sf s2 hS, fun r hr => ?_⟩
  refine q62_aload (n := 1) rfl g1 ?_
  refine q62_aload (n := 0) rfl g0 ?_
  refine q62_iload (n := 3) rfl g3 ?_
  refine q62_s (i := .bipush 1) rfl rfl ?_
  refine q62_s (i := .iadd) rfl rfl ?_
  refine ql_ia (j := k + 1) rfl ql_i1 (by omega) hL hM hS ?_
  refine q62_virt (y := 64) (a := 3) (as := [.int (xs (k + 1))]) (rest := []) (v := some (.int z)) rfl hM rfl rfl (of_decide_eq_true rfl) (by decide) a1 ?_
  refine q62_s (i := .pop) rfl rfl ?_
  refine q62_aload (n := 2) rfl g2 ?_
  refine q62_aload (n := 0) rfl g0 ?_
  refine q62_iload (n := 3) rfl g3 ?_
  refine q62_s (i := .bipush 1) rfl rfl ?_
  refine q62_s (i := .iadd) rfl rfl ?_
  refine ql_ia (j := k + 1) rfl ql_i1 (by omega) hL b1 S1 ?_
  refine q62_virt (y := 192) (a := 99) (as := [.int (xs (k + 1))]) (rest := []) (v := some (.int z')) rfl b1 rfl rfl (of_decide_eq_true rfl) (by decide) c1 ?_
  refine q62_s (i := .pop) rfl rfl ?_
  refine q62_s (i := .goto 1730) rfl rfl ?_
  exact hr
theorem ql_c15 (h : ql_I M) (hL : L ≤ 2560) (hS : ql_S L xs M) (hk : k + 5 ≤ L) (g0 : q4_get lv 0 = some (.ref 0)) (g1 : q4_get lv 1 = some (.ref 3)) (g2 : q4_get lv 2 = some (.ref 99)) (g3 : q4_get lv 3 = some (.int (nI k))) : ql_N L xs lv 757 M := by
  have hM := h.1
  obtain ⟨M1, M2, z, z', a1, b1, c1, d1, s1, s2⟩ := qp_80 h (xs (k + 1)) (xs (k + 2))
  have S1 := ql_Sf s1 hS
  refine ⟨M2, d1, ql_Sf s2 hS, fun r hr => ?_⟩
  refine q62_aload (n := 1) rfl g1 ?_
  refine q62_aload (n := 0) rfl g0 ?_
  refine q62_iload (n := 3) rfl g3 ?_
  refine q62_s (i := .bipush 1) rfl rfl ?_
  refine q62_s (i := .iadd) rfl rfl ?_
  refine ql_ia (j := k + 1) rfl ql_i1 (by omega) hL hM hS ?_
  refine q62_aload (n := 0) rfl g0 ?_
  refine q62_iload (n := 3) rfl g3 ?_
  refine q62_s (i := .bipush 2) rfl rfl ?_
  refine q62_s (i := .iadd) rfl rfl ?_
  refine ql_ia (j := k + 2) rfl ql_i2 (by omega) hL hM hS ?_
  refine q62_virt (y := 80) (a := 3) (as := [.int (xs (k + 1)), .int (xs (k + 2))]) (rest := []) (v := some (.long z)) rfl hM rfl rfl (of_decide_eq_true rfl) (by decide) a1 ?_
  refine q62_s (i := .pop2) rfl rfl ?_
  refine q62_aload (n := 2) rfl g2 ?_
  refine q62_aload (n := 0) rfl g0 ?_
  refine q62_iload (n := 3) rfl g3 ?_
  refine q62_s (i := .bipush 1) rfl rfl ?_
  refine q62_s (i := .iadd) rfl rfl ?_
  refine ql_ia (j := k + 1) rfl ql_i1 (by omega) hL b1 S1 ?_
  refine q62_aload (n := 0) rfl g0 ?_
  refine q62_iload (n := 3) rfl g3 ?_
  refine q62_s (i := .bipush 2) rfl rfl ?_
  refine q62_s (i := .iadd) rfl rfl ?_
  refine ql_ia (j := k + 2) rfl ql_i2 (by omega) hL b1 S1 ?_
  refine q62_virt (y := 200) (a := 99) (as := [.int (xs (k + 1)), .int (xs (k + 2))]) (rest := []) (v := some (.long z')) rfl b1 rfl rfl (of_decide_eq_true rfl) (by decide) c1 ?_
  refine q62_s (i := .pop2) rfl rfl ?_
  refine q62_s (i := .goto 1730) rfl rfl ?_
  exact hr
theorem ql_c16 (h : ql_I M) (hL : L ≤ 2560) (hS : ql_S L xs M) (hk : k + 5 ≤ L) (g0 : q4_get lv 0 = some (.ref 0)) (g1 : q4_get lv 1 = some (.ref 3)) (g2 : q4_get lv 2 = some (.ref 99)) (g3 : q4_get lv 3 = some (.int (nI k))) : ql_N L xs lv 790 M := by
  have hM := h.1
  obtain ⟨M1, M2, z, z', a1, b1, c1, d1, s1, s2⟩ := qp_85 h (xs (k + 1))
  have S1 := ql_Sf s1 hS
  refine ⟨M2, d1, ql_Sf s2 hS, fun r hr => ?_⟩
  refine q62_aload (n := 1) rfl g1 ?_
  refine q62_aload (n := 0) rfl g0 ?_
  refine q62_iload (n := 3) rfl g3 ?_
  refine q62_s (i := .bipush 1) rfl rfl ?_
  refine q62_s (i := .iadd) rfl rfl ?_
  refine ql_ia (j := k + 1) rfl ql_i1 (by omega) hL hM hS ?_
  refine q62_virt (y := 85) (a := 3) (as := [.int (xs (k + 1))]) (rest := []) (v := some (.int z)) rfl hM rfl rfl (of_decide_eq_true rfl) (by decide) a1 ?_
  refine q62_s (i := .pop) rfl rfl ?_
  refine q62_aload (n := 2) rfl g2 ?_
  refine q62_aload (n := 0) rfl g0 ?_
  refine q62_iload (n := 3) rfl g3 ?_
  refine q62_s (i := .bipush 1) rfl rfl ?_
  refine q62_s (i := .iadd) rfl rfl ?_
  refine ql_ia (j := k + 1) rfl ql_i1 (by omega) hL b1 S1 ?_
  refine q62_virt (y := 205) (a := 99) (as := [.int (xs (k + 1))]) (rest := []) (v := some (.int z')) rfl b1 rfl rfl (of_decide_eq_true rfl) (by decide) c1 ?_
  refine q62_s (i := .pop) rfl rfl ?_
  refine q62_s (i := .goto 1730) rfl rfl ?_
  exact hr
theorem ql_c17 (h : ql_I M) (hL : L ≤ 2560) (hS : ql_S L xs M) (hk : k + 5 ≤ L) (g0 : q4_get lv 0 = some (.ref 0)) (g1 : q4_get lv 1 = some (.ref 3)) (g2 : q4_get lv 2 = some (.ref 99)) (g3 : q4_get lv 3 = some (.int (nI k))) : ql_N L xs lv 813 M := by
  have hM := h.1
  obtain ⟨M1, M2, z, z', a1, b1, c1, d1, s1, s2⟩ := qp_86 h (xs (k + 1))
  have S1 := ql_Sf s1 hS
  refine ⟨M2, d1, ql_Sf s2 hS, fun r hr => ?_⟩
  refine q62_aload (n := 1) rfl g1 ?_
  refine q62_aload (n := 0) rfl g0 ?_
  refine q62_iload (n := 3) rfl g3 ?_
  refine q62_s (i := .bipush 1) rfl rfl ?_
  refine q62_s (i := .iadd) rfl rfl ?_
  refine ql_ia (j := k + 1) rfl ql_i1 (by omega) hL hM hS ?_
  refine q62_virt (y := 86) (a := 3) (as := [.int (xs (k + 1))]) (rest := []) (v := some (.int z)) rfl hM rfl rfl (of_decide_eq_true rfl) (by decide) a1 ?_
  refine q62_s (i := .pop) rfl rfl ?_
  refine q62_aload (n := 2) rfl g2 ?_
  refine q62_aload (n := 0) rfl g0 ?_
  refine q62_iload (n := 3) rfl g3 ?_
  refine q62_s (i := .bipush 1) rfl rfl ?_
  refine q62_s (i := .iadd) rfl rfl ?_
  refine ql_ia (j := k + 1) rfl ql_i1 (by omega) hL b1 S1 ?_
  refine q62_virt (y := 206) (a := 99) (as := [.int (xs (k + 1))]) (rest := []) (v := some (.int z')) rfl b1 rfl rfl (of_decide_eq_true rfl) (by decide) c1 ?_
  refine q62_s (i := .pop) rfl rfl ?_
  refine q62_s (i := .goto 1730) rfl rfl ?_
  exact hr
theorem ql_c18 (h : ql_I M) (hL : L ≤ 2560) (hS : ql_S L xs M) (hk : k + 5 ≤ L) (g0 : q4_get lv 0 = some (.ref 0)) (g1 : q4_get lv 1 = some (.ref 3)) (g2 : q4_get lv 2 = some (.ref 99)) (g3 : q4_get lv 3 = some (.int (nI k))) : ql_N L xs lv 836 M := by
  have hM := h.1
  obtain ⟨M1, M2, z, z', a1, b1, c1, d1, s1, s2⟩ := qp_88 h
  have S1 := ql_Sf s1 hS
  refine ⟨M2, d1, ql_Sf s2 hS, fun r hr => ?_⟩
  refine q62_aload (n := 1) rfl g1 ?_
  refine q62_virt (y := 88) (a := 3) (as := []) (rest := []) (v := some (.int z)) rfl hM rfl rfl (of_decide_eq_true rfl) (by decide) a1 ?_
  refine q62_s (i := .pop) rfl rfl ?_
  refine q62_aload (n := 2) rfl g2 ?_
  refine q62_virt (y := 207) (a := 99) (as := []) (rest := []) (v := some (.int z')) rfl b1 rfl rfl (of_decide_eq_true rfl) (by decide) c1 ?_
  refine q62_s (i := .pop) rfl rfl ?_
  refine q62_s (i := .goto 1730) rfl rfl ?_
  exact hr
theorem ql_c19 (h : ql_I M) (hL : L ≤ 2560) (hS : ql_S L xs M) (hk : k + 5 ≤ L) (g0 : q4_get lv 0 = some (.ref 0)) (g1 : q4_get lv 1 = some (.ref 3)) (g2 : q4_get lv 2 = some (.ref 99)) (g3 : q4_get lv 3 = some (.int (nI k))) : ql_N L xs lv 849 M := by
  have hM := h.1
  obtain ⟨M1, M2, z, z', a1, b1, c1, d1, s1, s2⟩ := qp_89 h (xs (k + 1)) (xs (k + 2))
  have S1 := ql_Sf s1 hS
  refine ⟨M2, d1, ql_Sf s2 hS, fun r hr => ?_⟩
  refine q62_aload (n := 1) rfl g1 ?_
  refine q62_aload (n := 0) rfl g0 ?_
  refine q62_iload (n := 3) rfl g3 ?_
  refine q62_s (i := .bipush 1) rfl rfl ?_
  refine q62_s (i := .iadd) rfl rfl ?_
  refine ql_ia (j := k + 1) rfl ql_i1 (by omega) hL hM hS ?_
  refine q62_aload (n := 0) rfl g0 ?_
  refine q62_iload (n := 3) rfl g3 ?_
  refine q62_s (i := .bipush 2) rfl rfl ?_
  refine q62_s (i := .iadd) rfl rfl ?_
  refine ql_ia (j := k + 2) rfl ql_i2 (by omega) hL hM hS ?_
  refine q62_virt (y := 89) (a := 3) (as := [.int (xs (k + 1)), .int (xs (k + 2))]) (rest := []) (v := some (.int z)) rfl hM rfl rfl (of_decide_eq_true rfl) (by decide) a1 ?_
  refine q62_s (i := .pop) rfl rfl ?_
  refine q62_aload (n := 2) rfl g2 ?_
  refine q62_aload (n := 0) rfl g0 ?_
  refine q62_iload (n := 3) rfl g3 ?_
  refine q62_s (i := .bipush 1) rfl rfl ?_
  refine q62_s (i := .iadd) rfl rfl ?_
  refine ql_ia (j := k + 1) rfl ql_i1 (by omega) hL b1 S1 ?_
  refine q62_aload (n := 0) rfl g0 ?_
  refine q62_iload (n := 3) rfl g3 ?_
  refine q62_s (i := .bipush 2) rfl rfl ?_
  refine q62_s (i := .iadd) rfl rfl ?_
  refine ql_ia (j := k + 2) rfl ql_i2 (by omega) hL b1 S1 ?_
  refine q62_virt (y := 209) (a := 99) (as := [.int (xs (k + 1)), .int (xs (k + 2))]) (rest := []) (v := some (.int z')) rfl b1 rfl rfl (of_decide_eq_true rfl) (by decide) c1 ?_
  refine q62_s (i := .pop) rfl rfl ?_
  refine q62_s (i := .goto 1730) rfl rfl ?_
  exact hr
theorem ql_c20 (h : ql_I M) (hL : L ≤ 2560) (hS : ql_S L xs M) (hk : k + 5 ≤ L) (g0 : q4_get lv 0 = some (.ref 0)) (g1 : q4_get lv 1 = some (.ref 3)) (g2 : q4_get lv 2 = some (.ref 99)) (g3 : q4_get lv 3 = some (.int (nI k))) : ql_N L xs lv 882 M := by
  have hM := h.1
  obtain ⟨M1, M2, z, z', a1, b1, c1, d1, s1, s2⟩ := qp_90 h
  have S1 := ql_Sf s1 hS
  refine ⟨M2, d1, ql_Sf s2 hS, fun r hr => ?_⟩
  refine q62_aload (n := 1) rfl g1 ?_
  refine q62_virt (y := 90) (a := 3) (as := []) (rest := []) (v := some (.int z)) rfl hM rfl rfl (of_decide_eq_true rfl) (by decide) a1 ?_
  refine q62_s (i := .pop) rfl rfl ?_
  refine q62_aload (n := 2) rfl g2 ?_
  refine q62_virt (y := 210) (a := 99) (as := []) (rest := []) (v := some (.int z')) rfl b1 rfl rfl (of_decide_eq_true rfl) (by decide) c1 ?_
  refine q62_s (i := .pop) rfl rfl ?_
  refine q62_s (i := .goto 1730) rfl rfl ?_
  exact hr
theorem ql_c21 (h : ql_I M) (hL : L ≤ 2560) (hS : ql_S L xs M) (hk : k + 5 ≤ L) (g0 : q4_get lv 0 = some (.ref 0)) (g1 : q4_get lv 1 = some (.ref 3)) (g2 : q4_get lv 2 = some (.ref 99)) (g3 : q4_get lv 3 = some (.int (nI k))) : ql_N L xs lv 895 M := by
  have hM := h.1
  obtain ⟨M1, M2, z, z', a1, b1, c1, d1, s1, s2⟩ := qp_91 h (xs (k + 1)) (xs (k + 2))
  have S1 := ql_Sf s1 hS
  refine ⟨M2, d1, ql_Sf s2 hS, fun r hr => ?_⟩
  refine q62_aload (n := 1) rfl g1 ?_
  refine q62_aload (n := 0) rfl g0 ?_
  refine q62_iload (n := 3) rfl g3 ?_
  refine q62_s (i := .bipush 1) rfl rfl ?_
  refine q62_s (i := .iadd) rfl rfl ?_
  refine ql_ia (j := k + 1) rfl ql_i1 (by omega) hL hM hS ?_
  refine q62_aload (n := 0) rfl g0 ?_
  refine q62_iload (n := 3) rfl g3 ?_
  refine q62_s (i := .bipush 2) rfl rfl ?_
  refine q62_s (i := .iadd) rfl rfl ?_
  refine ql_ia (j := k + 2) rfl ql_i2 (by omega) hL hM hS ?_
  refine q62_virt (y := 91) (a := 3) (as := [.int (xs (k + 1)), .int (xs (k + 2))]) (rest := []) (v := some (.int z)) rfl hM rfl rfl (of_decide_eq_true rfl) (by decide) a1 ?_
  refine q62_s (i := .pop) rfl rfl ?_
  refine q62_aload (n := 2) rfl g2 ?_
  refine q62_aload (n := 0) rfl g0 ?_
  refine q62_iload (n := 3) rfl g3 ?_
  refine q62_s (i := .bipush 1) rfl rfl ?_
  refine q62_s (i := .iadd) rfl rfl ?_
  refine ql_ia (j := k + 1) rfl ql_i1 (by omega) hL b1 S1 ?_
  refine q62_aload (n := 0) rfl g0 ?_
  refine q62_iload (n := 3) rfl g3 ?_
  refine q62_s (i := .bipush 2) rfl rfl ?_
  refine q62_s (i := .iadd) rfl rfl ?_
  refine ql_ia (j := k + 2) rfl ql_i2 (by omega) hL b1 S1 ?_
  refine q62_virt (y := 212) (a := 99) (as := [.int (xs (k + 1)), .int (xs (k + 2))]) (rest := []) (v := some (.int z')) rfl b1 rfl rfl (of_decide_eq_true rfl) (by decide) c1 ?_
  refine q62_s (i := .pop) rfl rfl ?_
  refine q62_s (i := .goto 1730) rfl rfl ?_
  exact hr
theorem ql_c22 (h : ql_I M) (hL : L ≤ 2560) (hS : ql_S L xs M) (hk : k + 5 ≤ L) (g0 : q4_get lv 0 = some (.ref 0)) (g1 : q4_get lv 1 = some (.ref 3)) (g2 : q4_get lv 2 = some (.ref 99)) (g3 : q4_get lv 3 = some (.int (nI k))) : ql_N L xs lv 928 M := by
  have hM := h.1
  obtain ⟨M1, M2, z, z', a1, b1, c1, d1, s1, s2⟩ := qp_98 h (xs (k + 1))
  have S1 := ql_Sf s1 hS
  refine ⟨M2, d1, ql_Sf s2 hS, fun r hr => ?_⟩
  refine q62_aload (n := 1) rfl g1 ?_
  refine q62_aload (n := 0) rfl g0 ?_
  refine q62_iload (n := 3) rfl g3 ?_
  refine q62_s (i := .bipush 1) rfl rfl ?_
  refine q62_s (i := .iadd) rfl rfl ?_
  refine ql_ia (j := k + 1) rfl ql_i1 (by omega) hL hM hS ?_
  refine q62_virt (y := 98) (a := 3) (as := [.int (xs (k + 1))]) (rest := []) (v := some (.int z)) rfl hM rfl rfl (of_decide_eq_true rfl) (by decide) a1 ?_
  refine q62_s (i := .pop) rfl rfl ?_
  refine q62_aload (n := 2) rfl g2 ?_
  refine q62_aload (n := 0) rfl g0 ?_
  refine q62_iload (n := 3) rfl g3 ?_
  refine q62_s (i := .bipush 1) rfl rfl ?_
  refine q62_s (i := .iadd) rfl rfl ?_
  refine ql_ia (j := k + 1) rfl ql_i1 (by omega) hL b1 S1 ?_
  refine q62_virt (y := 217) (a := 99) (as := [.int (xs (k + 1))]) (rest := []) (v := some (.int z')) rfl b1 rfl rfl (of_decide_eq_true rfl) (by decide) c1 ?_
  refine q62_s (i := .pop) rfl rfl ?_
  refine q62_s (i := .goto 1730) rfl rfl ?_
  exact hr
theorem ql_c23 (h : ql_I M) (hL : L ≤ 2560) (hS : ql_S L xs M) (hk : k + 5 ≤ L) (g0 : q4_get lv 0 = some (.ref 0)) (g1 : q4_get lv 1 = some (.ref 3)) (g2 : q4_get lv 2 = some (.ref 99)) (g3 : q4_get lv 3 = some (.int (nI k))) : ql_N L xs lv 951 M := by
  have hM := h.1
  obtain ⟨M1, M2, z, z', a1, b1, c1, d1, s1, s2⟩ := qp_100 h
  have S1 := ql_Sf s1 hS
  refine ⟨M2, d1, ql_Sf s2 hS, fun r hr => ?_⟩
  refine q62_aload (n := 1) rfl g1 ?_
  refine q62_virt (y := 100) (a := 3) (as := []) (rest := []) (v := some (.int z)) rfl hM rfl rfl (of_decide_eq_true rfl) (by decide) a1 ?_
  refine q62_s (i := .pop) rfl rfl ?_
  refine q62_aload (n := 2) rfl g2 ?_
  refine q62_virt (y := 219) (a := 99) (as := []) (rest := []) (v := some (.int z')) rfl b1 rfl rfl (of_decide_eq_true rfl) (by decide) c1 ?_
  refine q62_s (i := .pop) rfl rfl ?_
  refine q62_s (i := .goto 1730) rfl rfl ?_
  exact hr
theorem ql_c24 (h : ql_I M) (hL : L ≤ 2560) (hS : ql_S L xs M) (hk : k + 5 ≤ L) (g0 : q4_get lv 0 = some (.ref 0)) (g1 : q4_get lv 1 = some (.ref 3)) (g2 : q4_get lv 2 = some (.ref 99)) (g3 : q4_get lv 3 = some (.int (nI k))) : ql_N L xs lv 964 M := by
  have hM := h.1
  obtain ⟨M1, M2, z, z', a1, b1, c1, d1, s1, s2⟩ := qp_102 h (xs (k + 1)) (xs (k + 2)) (xs (k + 3)) (xs (k + 4))
  have S1 := ql_Sf s1 hS
  refine ⟨M2, d1, ql_Sf s2 hS, fun r hr => ?_⟩
  refine q62_aload (n := 1) rfl g1 ?_
  refine q62_aload (n := 0) rfl g0 ?_
  refine q62_iload (n := 3) rfl g3 ?_
  refine q62_s (i := .bipush 1) rfl rfl ?_
  refine q62_s (i := .iadd) rfl rfl ?_
  refine ql_ia (j := k + 1) rfl ql_i1 (by omega) hL hM hS ?_
  refine q62_aload (n := 0) rfl g0 ?_
  refine q62_iload (n := 3) rfl g3 ?_
  refine q62_s (i := .bipush 2) rfl rfl ?_
  refine q62_s (i := .iadd) rfl rfl ?_
  refine ql_ia (j := k + 2) rfl ql_i2 (by omega) hL hM hS ?_
  refine q62_aload (n := 0) rfl g0 ?_
  refine q62_iload (n := 3) rfl g3 ?_
  refine q62_s (i := .bipush 3) rfl rfl ?_
  refine q62_s (i := .iadd) rfl rfl ?_
  refine ql_ia (j := k + 3) rfl ql_i3 (by omega) hL hM hS ?_
  refine q62_aload (n := 0) rfl g0 ?_
  refine q62_iload (n := 3) rfl g3 ?_
  refine q62_s (i := .bipush 4) rfl rfl ?_
  refine q62_s (i := .iadd) rfl rfl ?_
  refine ql_ia (j := k + 4) rfl ql_i4 (by omega) hL hM hS ?_
  refine q62_virt (y := 102) (a := 3) (as := [.int (xs (k + 1)), .int (xs (k + 2)), .int (xs (k + 3)), .int (xs (k + 4))]) (rest := []) (v := some (.int z)) rfl hM rfl rfl (of_decide_eq_true rfl) (by decide) a1 ?_
  refine q62_s (i := .pop) rfl rfl ?_
  refine q62_aload (n := 2) rfl g2 ?_
  refine q62_aload (n := 0) rfl g0 ?_
  refine q62_iload (n := 3) rfl g3 ?_
  refine q62_s (i := .bipush 1) rfl rfl ?_
  refine q62_s (i := .iadd) rfl rfl ?_
  refine ql_ia (j := k + 1) rfl ql_i1 (by omega) hL b1 S1 ?_
  refine q62_aload (n := 0) rfl g0 ?_
  refine q62_iload (n := 3) rfl g3 ?_
  refine q62_s (i := .bipush 2) rfl rfl ?_
  refine q62_s (i := .iadd) rfl rfl ?_
  refine ql_ia (j := k + 2) rfl ql_i2 (by omega) hL b1 S1 ?_
  refine q62_aload (n := 0) rfl g0 ?_
  refine q62_iload (n := 3) rfl g3 ?_
  refine q62_s (i := .bipush 3) rfl rfl ?_
  refine q62_s (i := .iadd) rfl rfl ?_
  refine ql_ia (j := k + 3) rfl ql_i3 (by omega) hL b1 S1 ?_
  refine q62_aload (n := 0) rfl g0 ?_
  refine q62_iload (n := 3) rfl g3 ?_
  refine q62_s (i := .bipush 4) rfl rfl ?_
  refine q62_s (i := .iadd) rfl rfl ?_
  refine ql_ia (j := k + 4) rfl ql_i4 (by omega) hL b1 S1 ?_
  refine q62_virt (y := 220) (a := 99) (as := [.int (xs (k + 1)), .int (xs (k + 2)), .int (xs (k + 3)), .int (xs (k + 4))]) (rest := []) (v := some (.int z')) rfl b1 rfl rfl (of_decide_eq_true rfl) (by decide) c1 ?_
  refine q62_s (i := .pop) rfl rfl ?_
  refine q62_s (i := .goto 1730) rfl rfl ?_
  exact hr
theorem ql_c25 (h : ql_I M) (hL : L ≤ 2560) (hS : ql_S L xs M) (hk : k + 5 ≤ L) (g0 : q4_get lv 0 = some (.ref 0)) (g1 : q4_get lv 1 = some (.ref 3)) (g2 : q4_get lv 2 = some (.ref 99)) (g3 : q4_get lv 3 = some (.int (nI k))) : ql_N L xs lv 1017 M := by
  have hM := h.1
  obtain ⟨M1, M2, z, z', a1, b1, c1, d1, s1, s2⟩ := qp_103 h (xs (k + 1)) (xs (k + 2))
  have S1 := ql_Sf s1 hS
  refine ⟨M2, d1, ql_Sf s2 hS, fun r hr => ?_⟩
  refine q62_aload (n := 1) rfl g1 ?_
  refine q62_aload (n := 0) rfl g0 ?_
  refine q62_iload (n := 3) rfl g3 ?_
  refine q62_s (i := .bipush 1) rfl rfl ?_
  refine q62_s (i := .iadd) rfl rfl ?_
  refine ql_ia (j := k + 1) rfl ql_i1 (by omega) hL hM hS ?_
  refine q62_aload (n := 0) rfl g0 ?_
  refine q62_iload (n := 3) rfl g3 ?_
  refine q62_s (i := .bipush 2) rfl rfl ?_
  refine q62_s (i := .iadd) rfl rfl ?_
  refine ql_ia (j := k + 2) rfl ql_i2 (by omega) hL hM hS ?_
  refine q62_virt (y := 103) (a := 3) (as := [.int (xs (k + 1)), .int (xs (k + 2))]) (rest := []) (v := some (.long z)) rfl hM rfl rfl (of_decide_eq_true rfl) (by decide) a1 ?_
  refine q62_s (i := .pop2) rfl rfl ?_
  refine q62_aload (n := 2) rfl g2 ?_
  refine q62_aload (n := 0) rfl g0 ?_
  refine q62_iload (n := 3) rfl g3 ?_
  refine q62_s (i := .bipush 1) rfl rfl ?_
  refine q62_s (i := .iadd) rfl rfl ?_
  refine ql_ia (j := k + 1) rfl ql_i1 (by omega) hL b1 S1 ?_
  refine q62_aload (n := 0) rfl g0 ?_
  refine q62_iload (n := 3) rfl g3 ?_
  refine q62_s (i := .bipush 2) rfl rfl ?_
  refine q62_s (i := .iadd) rfl rfl ?_
  refine ql_ia (j := k + 2) rfl ql_i2 (by omega) hL b1 S1 ?_
  refine q62_virt (y := 221) (a := 99) (as := [.int (xs (k + 1)), .int (xs (k + 2))]) (rest := []) (v := some (.long z')) rfl b1 rfl rfl (of_decide_eq_true rfl) (by decide) c1 ?_
  refine q62_s (i := .pop2) rfl rfl ?_
  refine q62_s (i := .goto 1730) rfl rfl ?_
  exact hr
theorem ql_c26 (h : ql_I M) (hL : L ≤ 2560) (hS : ql_S L xs M) (hk : k + 5 ≤ L) (g0 : q4_get lv 0 = some (.ref 0)) (g1 : q4_get lv 1 = some (.ref 3)) (g2 : q4_get lv 2 = some (.ref 99)) (g3 : q4_get lv 3 = some (.int (nI k))) : ql_N L xs lv 1050 M := by
  have hM := h.1
  obtain ⟨M1, M2, z, z', a1, b1, c1, d1, s1, s2⟩ := qp_106 h (xs (k + 1)) (xs (k + 2))
  have S1 := ql_Sf s1 hS
  refine ⟨M2, d1, ql_Sf s2 hS, fun r hr => ?_⟩
  refine q62_aload (n := 1) rfl g1 ?_
  refine q62_aload (n := 0) rfl g0 ?_
  refine q62_iload (n := 3) rfl g3 ?_
  refine q62_s (i := .bipush 1) rfl rfl ?_
  refine q62_s (i := .iadd) rfl rfl ?_
  refine ql_ia (j := k + 1) rfl ql_i1 (by omega) hL hM hS ?_
  refine q62_aload (n := 0) rfl g0 ?_
  refine q62_iload (n := 3) rfl g3 ?_
  refine q62_s (i := .bipush 2) rfl rfl ?_
  refine q62_s (i := .iadd) rfl rfl ?_
  refine ql_ia (j := k + 2) rfl ql_i2 (by omega) hL hM hS ?_
  refine q62_virt (y := 106) (a := 3) (as := [.int (xs (k + 1)), .int (xs (k + 2))]) (rest := []) (v := some (.long z)) rfl hM rfl rfl (of_decide_eq_true rfl) (by decide) a1 ?_
  refine q62_s (i := .pop2) rfl rfl ?_
  refine q62_aload (n := 2) rfl g2 ?_
  refine q62_aload (n := 0) rfl g0 ?_
  refine q62_iload (n := 3) rfl g3 ?_
  refine q62_s (i := .bipush 1) rfl rfl ?_
  refine q62_s (i := .iadd) rfl rfl ?_
  refine ql_ia (j := k + 1) rfl ql_i1 (by omega) hL b1 S1 ?_
  refine q62_aload (n := 0) rfl g0 ?_
  refine q62_iload (n := 3) rfl g3 ?_
  refine q62_s (i := .bipush 2) rfl rfl ?_
  refine q62_s (i := .iadd) rfl rfl ?_
  refine ql_ia (j := k + 2) rfl ql_i2 (by omega) hL b1 S1 ?_
  refine q62_virt (y := 223) (a := 99) (as := [.int (xs (k + 1)), .int (xs (k + 2))]) (rest := []) (v := some (.long z')) rfl b1 rfl rfl (of_decide_eq_true rfl) (by decide) c1 ?_
  refine q62_s (i := .pop2) rfl rfl ?_
  refine q62_s (i := .goto 1730) rfl rfl ?_
  exact hr
theorem ql_c27 (h : ql_I M) (hL : L ≤ 2560) (hS : ql_S L xs M) (hk : k + 5 ≤ L) (g0 : q4_get lv 0 = some (.ref 0)) (g1 : q4_get lv 1 = some (.ref 3)) (g2 : q4_get lv 2 = some (.ref 99)) (g3 : q4_get lv 3 = some (.int (nI k))) : ql_N L xs lv 1083 M := by
  have hM := h.1
  obtain ⟨M1, M2, z, z', a1, b1, c1, d1, s1, s2⟩ := qp_108 h (xs (k + 1))
  have S1 := ql_Sf s1 hS
  refine ⟨M2, d1, ql_Sf s2 hS, fun r hr => ?_⟩
  refine q62_aload (n := 1) rfl g1 ?_
  refine q62_aload (n := 0) rfl g0 ?_
  refine q62_iload (n := 3) rfl g3 ?_
  refine q62_s (i := .bipush 1) rfl rfl ?_
  refine q62_s (i := .iadd) rfl rfl ?_
  refine ql_ia (j := k + 1) rfl ql_i1 (by omega) hL hM hS ?_
  refine q62_virt (y := 108) (a := 3) (as := [.int (xs (k + 1))]) (rest := []) (v := some (.int z)) rfl hM rfl rfl (of_decide_eq_true rfl) (by decide) a1 ?_
  refine q62_s (i := .pop) rfl rfl ?_
  refine q62_aload (n := 2) rfl g2 ?_
  refine q62_aload (n := 0) rfl g0 ?_
  refine q62_iload (n := 3) rfl g3 ?_
  refine q62_s (i := .bipush 1) rfl rfl ?_
  refine q62_s (i := .iadd) rfl rfl ?_
  refine ql_ia (j := k + 1) rfl ql_i1 (by omega) hL b1 S1 ?_
  refine q62_virt (y := 224) (a := 99) (as := [.int (xs (k + 1))]) (rest := []) (v := some (.int z')) rfl b1 rfl rfl (of_decide_eq_true rfl) (by decide) c1 ?_
  refine q62_s (i := .pop) rfl rfl ?_
  refine q62_s (i := .goto 1730) rfl rfl ?_
  exact hr
theorem ql_c28 (h : ql_I M) (hL : L ≤ 2560) (hS : ql_S L xs M) (hk : k + 5 ≤ L) (g0 : q4_get lv 0 = some (.ref 0)) (g1 : q4_get lv 1 = some (.ref 3)) (g2 : q4_get lv 2 = some (.ref 99)) (g3 : q4_get lv 3 = some (.int (nI k))) : ql_N L xs lv 1106 M := by
  have hM := h.1
  obtain ⟨M1, M2, z, z', a1, b1, c1, d1, s1, s2⟩ := qp_110 h (xs (k + 1)) (xs (k + 2))
  have S1 := ql_Sf s1 hS
  refine ⟨M2, d1, ql_Sf s2 hS, fun r hr => ?_⟩
  refine q62_aload (n := 1) rfl g1 ?_
  refine q62_aload (n := 0) rfl g0 ?_
  refine q62_iload (n := 3) rfl g3 ?_
  refine q62_s (i := .bipush 1) rfl rfl ?_
  refine q62_s (i := .iadd) rfl rfl ?_
  refine ql_ia (j := k + 1) rfl ql_i1 (by omega) hL hM hS ?_
  refine q62_aload (n := 0) rfl g0 ?_
  refine q62_iload (n := 3) rfl g3 ?_
  refine q62_s (i := .bipush 2) rfl rfl ?_
  refine q62_s (i := .iadd) rfl rfl ?_
  refine ql_ia (j := k + 2) rfl ql_i2 (by omega) hL hM hS ?_
  refine q62_virt (y := 110) (a := 3) (as := [.int (xs (k + 1)), .int (xs (k + 2))]) (rest := []) (v := some (.int z)) rfl hM rfl rfl (of_decide_eq_true rfl) (by decide) a1 ?_
  refine q62_s (i := .pop) rfl rfl ?_
  refine q62_aload (n := 2) rfl g2 ?_
  refine q62_aload (n := 0) rfl g0 ?_
  refine q62_iload (n := 3) rfl g3 ?_
  refine q62_s (i := .bipush 1) rfl rfl ?_
  refine q62_s (i := .iadd) rfl rfl ?_
  refine ql_ia (j := k + 1) rfl ql_i1 (by omega) hL b1 S1 ?_
  refine q62_aload (n := 0) rfl g0 ?_
  refine q62_iload (n := 3) rfl g3 ?_
  refine q62_s (i := .bipush 2) rfl rfl ?_
  refine q62_s (i := .iadd) rfl rfl ?_
  refine ql_ia (j := k + 2) rfl ql_i2 (by omega) hL b1 S1 ?_
  refine q62_virt (y := 225) (a := 99) (as := [.int (xs (k + 1)), .int (xs (k + 2))]) (rest := []) (v := some (.int z')) rfl b1 rfl rfl (of_decide_eq_true rfl) (by decide) c1 ?_
  refine q62_s (i := .pop) rfl rfl ?_
  refine q62_s (i := .goto 1730) rfl rfl ?_
  exact hr
theorem ql_c29 (h : ql_I M) (hL : L ≤ 2560) (hS : ql_S L xs M) (hk : k + 5 ≤ L) (g0 : q4_get lv 0 = some (.ref 0)) (g1 : q4_get lv 1 = some (.ref 3)) (g2 : q4_get lv 2 = some (.ref 99)) (g3 : q4_get lv 3 = some (.int (nI k))) : ql_N L xs lv 1139 M := by
  have hM := h.1
  obtain ⟨M1, M2, z, z', a1, b1, c1, d1, s1, s2⟩ := qp_111 h
  have S1 := ql_Sf s1 hS
  refine ⟨M2, d1, ql_Sf s2 hS, fun r hr => ?_⟩
  refine q62_aload (n := 1) rfl g1 ?_
  refine q62_virt (y := 111) (a := 3) (as := []) (rest := []) (v := some (.int z)) rfl hM rfl rfl (of_decide_eq_true rfl) (by decide) a1 ?_
  refine q62_s (i := .pop) rfl rfl ?_
  refine q62_aload (n := 2) rfl g2 ?_
  refine q62_virt (y := 226) (a := 99) (as := []) (rest := []) (v := some (.int z')) rfl b1 rfl rfl (of_decide_eq_true rfl) (by decide) c1 ?_
  refine q62_s (i := .pop) rfl rfl ?_
  refine q62_s (i := .goto 1730) rfl rfl ?_
  exact hr
theorem ql_c30 (h : ql_I M) (hL : L ≤ 2560) (hS : ql_S L xs M) (hk : k + 5 ≤ L) (g0 : q4_get lv 0 = some (.ref 0)) (g1 : q4_get lv 1 = some (.ref 3)) (g2 : q4_get lv 2 = some (.ref 99)) (g3 : q4_get lv 3 = some (.int (nI k))) : ql_N L xs lv 1152 M := by
  have hM := h.1
  obtain ⟨M1, M2, z, z', a1, b1, c1, d1, s1, s2⟩ := qp_114 h
  have S1 := ql_Sf s1 hS
  refine ⟨M2, d1, ql_Sf s2 hS, fun r hr => ?_⟩
  refine q62_aload (n := 1) rfl g1 ?_
  refine q62_virt (y := 114) (a := 3) (as := []) (rest := []) (v := some (.int z)) rfl hM rfl rfl (of_decide_eq_true rfl) (by decide) a1 ?_
  refine q62_s (i := .pop) rfl rfl ?_
  refine q62_aload (n := 2) rfl g2 ?_
  refine q62_virt (y := 228) (a := 99) (as := []) (rest := []) (v := some (.int z')) rfl b1 rfl rfl (of_decide_eq_true rfl) (by decide) c1 ?_
  refine q62_s (i := .pop) rfl rfl ?_
  refine q62_s (i := .goto 1730) rfl rfl ?_
  exact hr
theorem ql_c31 (h : ql_I M) (hL : L ≤ 2560) (hS : ql_S L xs M) (hk : k + 5 ≤ L) (g0 : q4_get lv 0 = some (.ref 0)) (g1 : q4_get lv 1 = some (.ref 3)) (g2 : q4_get lv 2 = some (.ref 99)) (g3 : q4_get lv 3 = some (.int (nI k))) : ql_N L xs lv 1165 M := by
  have hM := h.1
  obtain ⟨M1, M2, z, z', a1, b1, c1, d1, s1, s2⟩ := qp_115 h
  have S1 := ql_Sf s1 hS
  refine ⟨M2, d1, ql_Sf s2 hS, fun r hr => ?_⟩
  refine q62_aload (n := 1) rfl g1 ?_
  refine q62_virt (y := 115) (a := 3) (as := []) (rest := []) (v := some (.int z)) rfl hM rfl rfl (of_decide_eq_true rfl) (by decide) a1 ?_
  refine q62_s (i := .pop) rfl rfl ?_
  refine q62_aload (n := 2) rfl g2 ?_
  refine q62_virt (y := 229) (a := 99) (as := []) (rest := []) (v := some (.int z')) rfl b1 rfl rfl (of_decide_eq_true rfl) (by decide) c1 ?_
  refine q62_s (i := .pop) rfl rfl ?_
  refine q62_s (i := .goto 1730) rfl rfl ?_
  exact hr
theorem ql_c32 (h : ql_I M) (hL : L ≤ 2560) (hS : ql_S L xs M) (hk : k + 5 ≤ L) (g0 : q4_get lv 0 = some (.ref 0)) (g1 : q4_get lv 1 = some (.ref 3)) (g2 : q4_get lv 2 = some (.ref 99)) (g3 : q4_get lv 3 = some (.int (nI k))) : ql_N L xs lv 1178 M := by
  have hM := h.1
  obtain ⟨M1, M2, z, z', a1, b1, c1, d1, s1, s2⟩ := qp_116 h
  have S1 := ql_Sf s1 hS
  refine ⟨M2, d1, ql_Sf s2 hS, fun r hr => ?_⟩
  refine q62_aload (n := 1) rfl g1 ?_
  refine q62_virt (y := 116) (a := 3) (as := []) (rest := []) (v := some (.int z)) rfl hM rfl rfl (of_decide_eq_true rfl) (by decide) a1 ?_
  refine q62_s (i := .pop) rfl rfl ?_
  refine q62_aload (n := 2) rfl g2 ?_
  refine q62_virt (y := 230) (a := 99) (as := []) (rest := []) (v := some (.int z')) rfl b1 rfl rfl (of_decide_eq_true rfl) (by decide) c1 ?_
  refine q62_s (i := .pop) rfl rfl ?_
  refine q62_s (i := .goto 1730) rfl rfl ?_
  exact hr
theorem ql_c33 (h : ql_I M) (hL : L ≤ 2560) (hS : ql_S L xs M) (hk : k + 5 ≤ L) (g0 : q4_get lv 0 = some (.ref 0)) (g1 : q4_get lv 1 = some (.ref 3)) (g2 : q4_get lv 2 = some (.ref 99)) (g3 : q4_get lv 3 = some (.int (nI k))) : ql_N L xs lv 1191 M := by
  have hM := h.1
  obtain ⟨M1, M2, z, z', a1, b1, c1, d1, s1, s2⟩ := qp_118 h (xs (k + 1))
  have S1 := ql_Sf s1 hS
  refine ⟨M2, d1, ql_Sf s2 hS, fun r hr => ?_⟩
  refine q62_aload (n := 1) rfl g1 ?_
  refine q62_aload (n := 0) rfl g0 ?_
  refine q62_iload (n := 3) rfl g3 ?_
  refine q62_s (i := .bipush 1) rfl rfl ?_
  refine q62_s (i := .iadd) rfl rfl ?_
  refine ql_ia (j := k + 1) rfl ql_i1 (by omega) hL hM hS ?_
  refine q62_virt (y := 118) (a := 3) (as := [.int (xs (k + 1))]) (rest := []) (v := some (.int z)) rfl hM rfl rfl (of_decide_eq_true rfl) (by decide) a1 ?_
  refine q62_s (i := .pop) rfl rfl ?_
  refine q62_aload (n := 2) rfl g2 ?_
  refine q62_aload (n := 0) rfl g0 ?_
  refine q62_iload (n := 3) rfl g3 ?_
  refine q62_s (i := .bipush 1) rfl rfl ?_
  refine q62_s (i := .iadd) rfl rfl ?_
  refine ql_ia (j := k + 1) rfl ql_i1 (by omega) hL b1 S1 ?_
  refine q62_virt (y := 231) (a := 99) (as := [.int (xs (k + 1))]) (rest := []) (v := some (.int z')) rfl b1 rfl rfl (of_decide_eq_true rfl) (by decide) c1 ?_
  refine q62_s (i := .pop) rfl rfl ?_
  refine q62_s (i := .goto 1730) rfl rfl ?_
  exact hr
theorem ql_c34 (h : ql_I M) (hL : L ≤ 2560) (hS : ql_S L xs M) (hk : k + 5 ≤ L) (g0 : q4_get lv 0 = some (.ref 0)) (g1 : q4_get lv 1 = some (.ref 3)) (g2 : q4_get lv 2 = some (.ref 99)) (g3 : q4_get lv 3 = some (.int (nI k))) : ql_N L xs lv 1214 M := by
  have hM := h.1
  obtain ⟨M1, M2, z, z', a1, b1, c1, d1, s1, s2⟩ := qp_119 h (xs (k + 1)) (xs (k + 2))
  have S1 := ql_Sf s1 hS
  refine ⟨M2, d1, ql_Sf s2 hS, fun r hr => ?_⟩
  refine q62_aload (n := 1) rfl g1 ?_
  refine q62_aload (n := 0) rfl g0 ?_
  refine q62_iload (n := 3) rfl g3 ?_
  refine q62_s (i := .bipush 1) rfl rfl ?_
  refine q62_s (i := .iadd) rfl rfl ?_
  refine ql_ia (j := k + 1) rfl ql_i1 (by omega) hL hM hS ?_
  refine q62_aload (n := 0) rfl g0 ?_
  refine q62_iload (n := 3) rfl g3 ?_
  refine q62_s (i := .bipush 2) rfl rfl ?_
  refine q62_s (i := .iadd) rfl rfl ?_
  refine ql_ia (j := k + 2) rfl ql_i2 (by omega) hL hM hS ?_
  refine q62_virt (y := 119) (a := 3) (as := [.int (xs (k + 1)), .int (xs (k + 2))]) (rest := []) (v := some (.int z)) rfl hM rfl rfl (of_decide_eq_true rfl) (by decide) a1 ?_
  refine q62_s (i := .pop) rfl rfl ?_
  refine q62_aload (n := 2) rfl g2 ?_
  refine q62_aload (n := 0) rfl g0 ?_
  refine q62_iload (n := 3) rfl g3 ?_
  refine q62_s (i := .bipush 1) rfl rfl ?_
  refine q62_s (i := .iadd) rfl rfl ?_
  refine ql_ia (j := k + 1) rfl ql_i1 (by omega) hL b1 S1 ?_
  refine q62_aload (n := 0) rfl g0 ?_
  refine q62_iload (n := 3) rfl g3 ?_
  refine q62_s (i := .bipush 2) rfl rfl ?_
  refine q62_s (i := .iadd) rfl rfl ?_
  refine ql_ia (j := k + 2) rfl ql_i2 (by omega) hL b1 S1 ?_
  refine q62_virt (y := 232) (a := 99) (as := [.int (xs (k + 1)), .int (xs (k + 2))]) (rest := []) (v := some (.int z')) rfl b1 rfl rfl (of_decide_eq_true rfl) (by decide) c1 ?_
  refine q62_s (i := .pop) rfl rfl ?_
  refine q62_s (i := .goto 1730) rfl rfl ?_
  exact hr
theorem ql_c35 (h : ql_I M) (hL : L ≤ 2560) (hS : ql_S L xs M) (hk : k + 5 ≤ L) (g0 : q4_get lv 0 = some (.ref 0)) (g1 : q4_get lv 1 = some (.ref 3)) (g2 : q4_get lv 2 = some (.ref 99)) (g3 : q4_get lv 3 = some (.int (nI k))) : ql_N L xs lv 1247 M := by
  have hM := h.1
  obtain ⟨M1, M2, z, z', a1, b1, c1, d1, s1, s2⟩ := qp_121 h
  have S1 := ql_Sf s1 hS
  refine ⟨M2, d1, ql_Sf s2 hS, fun r hr => ?_⟩
  refine q62_aload (n := 1) rfl g1 ?_
  refine q62_virt (y := 121) (a := 3) (as := []) (rest := []) (v := some (.int z)) rfl hM rfl rfl (of_decide_eq_true rfl) (by decide) a1 ?_
  refine q62_s (i := .pop) rfl rfl ?_
  refine q62_aload (n := 2) rfl g2 ?_
  refine q62_virt (y := 233) (a := 99) (as := []) (rest := []) (v := some (.int z')) rfl b1 rfl rfl (of_decide_eq_true rfl) (by decide) c1 ?_
  refine q62_s (i := .pop) rfl rfl ?_
  refine q62_s (i := .goto 1730) rfl rfl ?_
  exact hr
theorem ql_c36 (h : ql_I M) (hL : L ≤ 2560) (hS : ql_S L xs M) (hk : k + 5 ≤ L) (g0 : q4_get lv 0 = some (.ref 0)) (g1 : q4_get lv 1 = some (.ref 3)) (g2 : q4_get lv 2 = some (.ref 99)) (g3 : q4_get lv 3 = some (.int (nI k))) : ql_N L xs lv 1260 M := by
  have hM := h.1
  obtain ⟨M1, M2, z, z', a1, b1, c1, d1, s1, s2⟩ := qp_122 h (xs (k + 1))
  have S1 := ql_Sf s1 hS
  refine ⟨M2, d1, ql_Sf s2 hS, fun r hr => ?_⟩
  refine q62_aload (n := 1) rfl g1 ?_
  refine q62_aload (n := 0) rfl g0 ?_
  refine q62_iload (n := 3) rfl g3 ?_
  refine q62_s (i := .bipush 1) rfl rfl ?_
  refine q62_s (i := .iadd) rfl rfl ?_
  refine ql_ia (j := k + 1) rfl ql_i1 (by omega) hL hM hS ?_
  refine q62_virt (y := 122) (a := 3) (as := [.int (xs (k + 1))]) (rest := []) (v := some (.int z)) rfl hM rfl rfl (of_decide_eq_true rfl) (by decide) a1 ?_
  refine q62_s (i := .pop) rfl rfl ?_
  refine q62_aload (n := 2) rfl g2 ?_
  refine q62_aload (n := 0) rfl g0 ?_
  refine q62_iload (n := 3) rfl g3 ?_
  refine q62_s (i := .bipush 1) rfl rfl ?_
  refine q62_s (i := .iadd) rfl rfl ?_
  refine ql_ia (j := k + 1) rfl ql_i1 (by omega) hL b1 S1 ?_
  refine q62_virt (y := 234) (a := 99) (as := [.int (xs (k + 1))]) (rest := []) (v := some (.int z')) rfl b1 rfl rfl (of_decide_eq_true rfl) (by decide) c1 ?_
  refine q62_s (i := .pop) rfl rfl ?_
  refine q62_s (i := .goto 1730) rfl rfl ?_
  exact hr
theorem ql_c37 (h : ql_I M) (hL : L ≤ 2560) (hS : ql_S L xs M) (hk : k + 5 ≤ L) (g0 : q4_get lv 0 = some (.ref 0)) (g1 : q4_get lv 1 = some (.ref 3)) (g2 : q4_get lv 2 = some (.ref 99)) (g3 : q4_get lv 3 = some (.int (nI k))) : ql_N L xs lv 1283 M := by
  have hM := h.1
  obtain ⟨M1, M2, z, z', a1, b1, c1, d1, s1, s2⟩ := qp_123 h (xs (k + 1))
  have S1 := ql_Sf s1 hS
  refine ⟨M2, d1, ql_Sf s2 hS, fun r hr => ?_⟩
  refine q62_aload (n := 1) rfl g1 ?_
  refine q62_aload (n := 0) rfl g0 ?_
  refine q62_iload (n := 3) rfl g3 ?_
  refine q62_s (i := .bipush 1) rfl rfl ?_
  refine q62_s (i := .iadd) rfl rfl ?_
  refine ql_ia (j := k + 1) rfl ql_i1 (by omega) hL hM hS ?_
  refine q62_virt (y := 123) (a := 3) (as := [.int (xs (k + 1))]) (rest := []) (v := some (.int z)) rfl hM rfl rfl (of_decide_eq_true rfl) (by decide) a1 ?_
  refine q62_s (i := .pop) rfl rfl ?_
  refine q62_aload (n := 2) rfl g2 ?_
  refine q62_aload (n := 0) rfl g0 ?_
  refine q62_iload (n := 3) rfl g3 ?_
  refine q62_s (i := .bipush 1) rfl rfl ?_
  refine q62_s (i := .iadd) rfl rfl ?_
  refine ql_ia (j := k + 1) rfl ql_i1 (by omega) hL b1 S1 ?_
  refine q62_virt (y := 235) (a := 99) (as := [.int (xs (k + 1))]) (rest := []) (v := some (.int z')) rfl b1 rfl rfl (of_decide_eq_true rfl) (by decide) c1 ?_
  refine q62_s (i := .pop) rfl rfl ?_
  refine q62_s (i := .goto 1730) rfl rfl ?_
  exact hr
theorem ql_c38 (h : ql_I M) (hL : L ≤ 2560) (hS : ql_S L xs M) (hk : k + 5 ≤ L) (g0 : q4_get lv 0 = some (.ref 0)) (g1 : q4_get lv 1 = some (.ref 3)) (g2 : q4_get lv 2 = some (.ref 99)) (g3 : q4_get lv 3 = some (.int (nI k))) : ql_N L xs lv 1306 M := by
  have hM := h.1
  obtain ⟨M1, M2, z, z', a1, b1, c1, d1, s1, s2⟩ := qp_124 h (xs (k + 1))
  have S1 := ql_Sf s1 hS
  refine ⟨M2, d1, ql_Sf s2 hS, fun r hr => ?_⟩
  refine q62_aload (n := 1) rfl g1 ?_
  refine q62_aload (n := 0) rfl g0 ?_
  refine q62_iload (n := 3) rfl g3 ?_
  refine q62_s (i := .bipush 1) rfl rfl ?_
  refine q62_s (i := .iadd) rfl rfl ?_
  refine ql_ia (j := k + 1) rfl ql_i1 (by omega) hL hM hS ?_
  refine q62_virt (y := 124) (a := 3) (as := [.int (xs (k + 1))]) (rest := []) (v := some (.int z)) rfl hM rfl rfl (of_decide_eq_true rfl) (by decide) a1 ?_
  refine q62_s (i := .pop) rfl rfl ?_
  refine q62_aload (n := 2) rfl g2 ?_
  refine q62_aload (n := 0) rfl g0 ?_
  refine q62_iload (n := 3) rfl g3 ?_
  refine q62_s (i := .bipush 1) rfl rfl ?_
  refine q62_s (i := .iadd) rfl rfl ?_
  refine ql_ia (j := k + 1) rfl ql_i1 (by omega) hL b1 S1 ?_
  refine q62_virt (y := 236) (a := 99) (as := [.int (xs (k + 1))]) (rest := []) (v := some (.int z')) rfl b1 rfl rfl (of_decide_eq_true rfl) (by decide) c1 ?_
  refine q62_s (i := .pop) rfl rfl ?_
  refine q62_s (i := .goto 1730) rfl rfl ?_
  exact hr
theorem ql_c39 (h : ql_I M) (hL : L ≤ 2560) (hS : ql_S L xs M) (hk : k + 5 ≤ L) (g0 : q4_get lv 0 = some (.ref 0)) (g1 : q4_get lv 1 = some (.ref 3)) (g2 : q4_get lv 2 = some (.ref 99)) (g3 : q4_get lv 3 = some (.int (nI k))) : ql_N L xs lv 1329 M := by
  have hM := h.1
  obtain ⟨M1, M2, z, z', a1, b1, c1, d1, s1, s2⟩ := qp_125 h (xs (k + 1))
  have S1 := ql_Sf s1 hS
  refine ⟨M2, d1, ql_Sf s2 hS, fun r hr => ?_⟩
  refine q62_aload (n := 1) rfl g1 ?_
  refine q62_aload (n := 0) rfl g0 ?_
  refine q62_iload (n := 3) rfl g3 ?_
  refine q62_s (i := .bipush 1) rfl rfl ?_
  refine q62_s (i := .iadd) rfl rfl ?_
  refine ql_ia (j := k + 1) rfl ql_i1 (by omega) hL hM hS ?_
  refine q62_virt (y := 125) (a := 3) (as := [.int (xs (k + 1))]) (rest := []) (v := some (.int z)) rfl hM rfl rfl (of_decide_eq_true rfl) (by decide) a1 ?_
  refine q62_s (i := .pop) rfl rfl ?_
  refine q62_aload (n := 2) rfl g2 ?_
  refine q62_aload (n := 0) rfl g0 ?_
  refine q62_iload (n := 3) rfl g3 ?_
  refine q62_s (i := .bipush 1) rfl rfl ?_
  refine q62_s (i := .iadd) rfl rfl ?_
  refine ql_ia (j := k + 1) rfl ql_i1 (by omega) hL b1 S1 ?_
  refine q62_virt (y := 237) (a := 99) (as := [.int (xs (k + 1))]) (rest := []) (v := some (.int z')) rfl b1 rfl rfl (of_decide_eq_true rfl) (by decide) c1 ?_
  refine q62_s (i := .pop) rfl rfl ?_
  refine q62_s (i := .goto 1730) rfl rfl ?_
  exact hr
theorem ql_c40 (h : ql_I M) (hL : L ≤ 2560) (hS : ql_S L xs M) (hk : k + 5 ≤ L) (g0 : q4_get lv 0 = some (.ref 0)) (g1 : q4_get lv 1 = some (.ref 3)) (g2 : q4_get lv 2 = some (.ref 99)) (g3 : q4_get lv 3 = some (.int (nI k))) : ql_N L xs lv 1352 M := by
  have hM := h.1
  obtain ⟨M1, M2, z, z', a1, b1, c1, d1, s1, s2⟩ := qp_128 h (xs (k + 1))
  have S1 := ql_Sf s1 hS
  refine ⟨M2, d1, ql_Sf s2 hS, fun r hr => ?_⟩
  refine q62_aload (n := 1) rfl g1 ?_
  refine q62_aload (n := 0) rfl g0 ?_
  refine q62_iload (n := 3) rfl g3 ?_
  refine q62_s (i := .bipush 1) rfl rfl ?_
  refine q62_s (i := .iadd) rfl rfl ?_
  refine ql_ia (j := k + 1) rfl ql_i1 (by omega) hL hM hS ?_
  refine q62_virt (y := 128) (a := 3) (as := [.int (xs (k + 1))]) (rest := []) (v := some (.int z)) rfl hM rfl rfl (of_decide_eq_true rfl) (by decide) a1 ?_
  refine q62_s (i := .pop) rfl rfl ?_
  refine q62_aload (n := 2) rfl g2 ?_
  refine q62_aload (n := 0) rfl g0 ?_
  refine q62_iload (n := 3) rfl g3 ?_
  refine q62_s (i := .bipush 1) rfl rfl ?_
  refine q62_s (i := .iadd) rfl rfl ?_
  refine ql_ia (j := k + 1) rfl ql_i1 (by omega) hL b1 S1 ?_
  refine q62_virt (y := 238) (a := 99) (as := [.int (xs (k + 1))]) (rest := []) (v := some (.int z')) rfl b1 rfl rfl (of_decide_eq_true rfl) (by decide) c1 ?_
  refine q62_s (i := .pop) rfl rfl ?_
  refine q62_s (i := .goto 1730) rfl rfl ?_
  exact hr
theorem ql_c41 (h : ql_I M) (hL : L ≤ 2560) (hS : ql_S L xs M) (hk : k + 5 ≤ L) (g0 : q4_get lv 0 = some (.ref 0)) (g1 : q4_get lv 1 = some (.ref 3)) (g2 : q4_get lv 2 = some (.ref 99)) (g3 : q4_get lv 3 = some (.int (nI k))) : ql_N L xs lv 1375 M := by
  have hM := h.1
  obtain ⟨M1, M2, z, z', a1, b1, c1, d1, s1, s2⟩ := qp_129 h (xs (k + 1))
  have S1 := ql_Sf s1 hS
  refine ⟨M2, d1, ql_Sf s2 hS, fun r hr => ?_⟩
  refine q62_aload (n := 1) rfl g1 ?_
  refine q62_aload (n := 0) rfl g0 ?_
  refine q62_iload (n := 3) rfl g3 ?_
  refine q62_s (i := .bipush 1) rfl rfl ?_
  refine q62_s (i := .iadd) rfl rfl ?_
  refine ql_ia (j := k + 1) rfl ql_i1 (by omega) hL hM hS ?_
  refine q62_virt (y := 129) (a := 3) (as := [.int (xs (k + 1))]) (rest := []) (v := some (.int z)) rfl hM rfl rfl (of_decide_eq_true rfl) (by decide) a1 ?_
  refine q62_s (i := .pop) rfl rfl ?_
  refine q62_aload (n := 2) rfl g2 ?_
  refine q62_aload (n := 0) rfl g0 ?_
  refine q62_iload (n := 3) rfl g3 ?_
  refine q62_s (i := .bipush 1) rfl rfl ?_
  refine q62_s (i := .iadd) rfl rfl ?_
  refine ql_ia (j := k + 1) rfl ql_i1 (by omega) hL b1 S1 ?_
  refine q62_virt (y := 239) (a := 99) (as := [.int (xs (k + 1))]) (rest := []) (v := some (.int z')) rfl b1 rfl rfl (of_decide_eq_true rfl) (by decide) c1 ?_
  refine q62_s (i := .pop) rfl rfl ?_
  refine q62_s (i := .goto 1730) rfl rfl ?_
  exact hr
theorem ql_c42 (h : ql_I M) (hL : L ≤ 2560) (hS : ql_S L xs M) (hk : k + 5 ≤ L) (g0 : q4_get lv 0 = some (.ref 0)) (g1 : q4_get lv 1 = some (.ref 3)) (g2 : q4_get lv 2 = some (.ref 99)) (g3 : q4_get lv 3 = some (.int (nI k))) : ql_N L xs lv 1398 M := by
  have hM := h.1
  obtain ⟨M1, M2, z, z', a1, b1, c1, d1, s1, s2⟩ := qp_130 h (xs (k + 1)) (xs (k + 2)) (xs (k + 3))
  have S1 := ql_Sf s1 hS
  refine ⟨M2, d1, ql_Sf s2 hS, fun r hr => ?_⟩
  refine q62_aload (n := 1) rfl g1 ?_
  refine q62_aload (n := 0) rfl g0 ?_
  refine q62_iload (n := 3) rfl g3 ?_
  refine q62_s (i := .bipush 1) rfl rfl ?_
  refine q62_s (i := .iadd) rfl rfl ?_
  refine ql_ia (j := k + 1) rfl ql_i1 (by omega) hL hM hS ?_
  refine q62_aload (n := 0) rfl g0 ?_
  refine q62_iload (n := 3) rfl g3 ?_
  refine q62_s (i := .bipush 2) rfl rfl ?_
  refine q62_s (i := .iadd) rfl rfl ?_
  refine ql_ia (j := k + 2) rfl ql_i2 (by omega) hL hM hS ?_
  refine q62_aload (n := 0) rfl g0 ?_
  refine q62_iload (n := 3) rfl g3 ?_
  refine q62_s (i := .bipush 3) rfl rfl ?_
  refine q62_s (i := .iadd) rfl rfl ?_
  refine ql_ia (j := k + 3) rfl ql_i3 (by omega) hL hM hS ?_
  refine q62_virt (y := 130) (a := 3) (as := [.int (xs (k + 1)), .int (xs (k + 2)), .int (xs (k + 3))]) (rest := []) (v := some (.int z)) rfl hM rfl rfl (of_decide_eq_true rfl) (by decide) a1 ?_
  refine q62_s (i := .pop) rfl rfl ?_
  refine q62_aload (n := 2) rfl g2 ?_
  refine q62_aload (n := 0) rfl g0 ?_
  refine q62_iload (n := 3) rfl g3 ?_
  refine q62_s (i := .bipush 1) rfl rfl ?_
  refine q62_s (i := .iadd) rfl rfl ?_
  refine ql_ia (j := k + 1) rfl ql_i1 (by omega) hL b1 S1 ?_
  refine q62_aload (n := 0) rfl g0 ?_
  refine q62_iload (n := 3) rfl g3 ?_
  refine q62_s (i := .bipush 2) rfl rfl ?_
  refine q62_s (i := .iadd) rfl rfl ?_
  refine ql_ia (j := k + 2) rfl ql_i2 (by omega) hL b1 S1 ?_
  refine q62_aload (n := 0) rfl g0 ?_
  refine q62_iload (n := 3) rfl g3 ?_
  refine q62_s (i := .bipush 3) rfl rfl ?_
  refine q62_s (i := .iadd) rfl rfl ?_
  refine ql_ia (j := k + 3) rfl ql_i3 (by omega) hL b1 S1 ?_
  refine q62_virt (y := 240) (a := 99) (as := [.int (xs (k + 1)), .int (xs (k + 2)), .int (xs (k + 3))]) (rest := []) (v := some (.int z')) rfl b1 rfl rfl (of_decide_eq_true rfl) (by decide) c1 ?_
  refine q62_s (i := .pop) rfl rfl ?_
  refine q62_s (i := .goto 1730) rfl rfl ?_
  exact hr
theorem ql_c43 (h : ql_I M) (hL : L ≤ 2560) (hS : ql_S L xs M) (hk : k + 5 ≤ L) (g0 : q4_get lv 0 = some (.ref 0)) (g1 : q4_get lv 1 = some (.ref 3)) (g2 : q4_get lv 2 = some (.ref 99)) (g3 : q4_get lv 3 = some (.int (nI k))) : ql_N L xs lv 1441 M := by
  have hM := h.1
  obtain ⟨M1, M2, z, z', a1, b1, c1, d1, s1, s2⟩ := qp_131 h (xs (k + 1))
  have S1 := ql_Sf s1 hS
  refine ⟨M2, d1, ql_Sf s2 hS, fun r hr => ?_⟩
  refine q62_aload (n := 1) rfl g1 ?_
  refine q62_aload (n := 0) rfl g0 ?_
  refine q62_iload (n := 3) rfl g3 ?_
  refine q62_s (i := .bipush 1) rfl rfl ?_
  refine q62_s (i := .iadd) rfl rfl ?_
  refine ql_ia (j := k + 1) rfl ql_i1 (by omega) hL hM hS ?_
  refine q62_virt (y := 131) (a := 3) (as := [.int (xs (k + 1))]) (rest := []) (v := some (.int z)) rfl hM rfl rfl (of_decide_eq_true rfl) (by decide) a1 ?_
  refine q62_s (i := .pop) rfl rfl ?_
  refine q62_aload (n := 2) rfl g2 ?_
  refine q62_aload (n := 0) rfl g0 ?_
  refine q62_iload (n := 3) rfl g3 ?_
  refine q62_s (i := .bipush 1) rfl rfl ?_
  refine q62_s (i := .iadd) rfl rfl ?_
  refine ql_ia (j := k + 1) rfl ql_i1 (by omega) hL b1 S1 ?_
  refine q62_virt (y := 241) (a := 99) (as := [.int (xs (k + 1))]) (rest := []) (v := some (.int z')) rfl b1 rfl rfl (of_decide_eq_true rfl) (by decide) c1 ?_
  refine q62_s (i := .pop) rfl rfl ?_
  refine q62_s (i := .goto 1730) rfl rfl ?_
  exact hr
theorem ql_c44 (h : ql_I M) (hL : L ≤ 2560) (hS : ql_S L xs M) (hk : k + 5 ≤ L) (g0 : q4_get lv 0 = some (.ref 0)) (g1 : q4_get lv 1 = some (.ref 3)) (g2 : q4_get lv 2 = some (.ref 99)) (g3 : q4_get lv 3 = some (.int (nI k))) : ql_N L xs lv 1464 M := by
  have hM := h.1
  obtain ⟨M1, M2, z, z', a1, b1, c1, d1, s1, s2⟩ := qp_133 h (xs (k + 1))
  have S1 := ql_Sf s1 hS
  refine ⟨M2, d1, ql_Sf s2 hS, fun r hr => ?_⟩
  refine q62_aload (n := 1) rfl g1 ?_
  refine q62_aload (n := 0) rfl g0 ?_
  refine q62_iload (n := 3) rfl g3 ?_
  refine q62_s (i := .bipush 1) rfl rfl ?_
  refine q62_s (i := .iadd) rfl rfl ?_
  refine ql_ia (j := k + 1) rfl ql_i1 (by omega) hL hM hS ?_
  refine q62_virt (y := 133) (a := 3) (as := [.int (xs (k + 1))]) (rest := []) (v := some (.int z)) rfl hM rfl rfl (of_decide_eq_true rfl) (by decide) a1 ?_
  refine q62_s (i := .pop) rfl rfl ?_
  refine q62_aload (n := 2) rfl g2 ?_
  refine q62_aload (n := 0) rfl g0 ?_
  refine q62_iload (n := 3) rfl g3 ?_
  refine q62_s (i := .bipush 1) rfl rfl ?_
  refine q62_s (i := .iadd) rfl rfl ?_
  refine ql_ia (j := k + 1) rfl ql_i1 (by omega) hL b1 S1 ?_
  refine q62_virt (y := 242) (a := 99) (as := [.int (xs (k + 1))]) (rest := []) (v := some (.int z')) rfl b1 rfl rfl (of_decide_eq_true rfl) (by decide) c1 ?_
  refine q62_s (i := .pop) rfl rfl ?_
  refine q62_s (i := .goto 1730) rfl rfl ?_
  exact hr
theorem ql_c45 (h : ql_I M) (hL : L ≤ 2560) (hS : ql_S L xs M) (hk : k + 5 ≤ L) (g0 : q4_get lv 0 = some (.ref 0)) (g1 : q4_get lv 1 = some (.ref 3)) (g2 : q4_get lv 2 = some (.ref 99)) (g3 : q4_get lv 3 = some (.int (nI k))) : ql_N L xs lv 1487 M := by
  have hM := h.1
  obtain ⟨M1, M2, z, z', a1, b1, c1, d1, s1, s2⟩ := qp_135 h
  have S1 := ql_Sf s1 hS
  refine ⟨M2, d1, ql_Sf s2 hS, fun r hr => ?_⟩
  refine q62_aload (n := 1) rfl g1 ?_
  refine q62_virt (y := 135) (a := 3) (as := []) (rest := []) (v := some (.int z)) rfl hM rfl rfl (of_decide_eq_true rfl) (by decide) a1 ?_
  refine q62_s (i := .pop) rfl rfl ?_
  refine q62_aload (n := 2) rfl g2 ?_
  refine q62_virt (y := 243) (a := 99) (as := []) (rest := []) (v := some (.int z')) rfl b1 rfl rfl (of_decide_eq_true rfl) (by decide) c1 ?_
  refine q62_s (i := .pop) rfl rfl ?_
  refine q62_s (i := .goto 1730) rfl rfl ?_
  exact hr
theorem ql_c46 (h : ql_I M) (hL : L ≤ 2560) (hS : ql_S L xs M) (hk : k + 5 ≤ L) (g0 : q4_get lv 0 = some (.ref 0)) (g1 : q4_get lv 1 = some (.ref 3)) (g2 : q4_get lv 2 = some (.ref 99)) (g3 : q4_get lv 3 = some (.int (nI k))) : ql_N L xs lv 1500 M := by
  have hM := h.1
  obtain ⟨M1, M2, z, z', a1, b1, c1, d1, s1, s2⟩ := qp_136 h (xs (k + 1)) (xs (k + 2))
  have S1 := ql_Sf s1 hS
  refine ⟨M2, d1, ql_Sf s2 hS, fun r hr => ?_⟩
  refine q62_aload (n := 1) rfl g1 ?_
  refine q62_aload (n := 0) rfl g0 ?_
  refine q62_iload (n := 3) rfl g3 ?_
  refine q62_s (i := .bipush 1) rfl rfl ?_
  refine q62_s (i := .iadd) rfl rfl ?_
  refine ql_ia (j := k + 1) rfl ql_i1 (by omega) hL hM hS ?_
  refine q62_aload (n := 0) rfl g0 ?_
  refine q62_iload (n := 3) rfl g3 ?_
  refine q62_s (i := .bipush 2) rfl rfl ?_
  refine q62_s (i := .iadd) rfl rfl ?_
  refine ql_ia (j := k + 2) rfl ql_i2 (by omega) hL hM hS ?_
  refine q62_virt (y := 136) (a := 3) (as := [.int (xs (k + 1)), .int (xs (k + 2))]) (rest := []) (v := some (.int z)) rfl hM rfl rfl (of_decide_eq_true rfl) (by decide) a1 ?_
  refine q62_s (i := .pop) rfl rfl ?_
  refine q62_aload (n := 2) rfl g2 ?_
  refine q62_aload (n := 0) rfl g0 ?_
  refine q62_iload (n := 3) rfl g3 ?_
  refine q62_s (i := .bipush 1) rfl rfl ?_
  refine q62_s (i := .iadd) rfl rfl ?_
  refine ql_ia (j := k + 1) rfl ql_i1 (by omega) hL b1 S1 ?_
  refine q62_aload (n := 0) rfl g0 ?_
  refine q62_iload (n := 3) rfl g3 ?_
  refine q62_s (i := .bipush 2) rfl rfl ?_
  refine q62_s (i := .iadd) rfl rfl ?_
  refine ql_ia (j := k + 2) rfl ql_i2 (by omega) hL b1 S1 ?_
  refine q62_virt (y := 244) (a := 99) (as := [.int (xs (k + 1)), .int (xs (k + 2))]) (rest := []) (v := some (.int z')) rfl b1 rfl rfl (of_decide_eq_true rfl) (by decide) c1 ?_
  refine q62_s (i := .pop) rfl rfl ?_
  refine q62_s (i := .goto 1730) rfl rfl ?_
  exact hr
theorem ql_c47 (h : ql_I M) (hL : L ≤ 2560) (hS : ql_S L xs M) (hk : k + 5 ≤ L) (g0 : q4_get lv 0 = some (.ref 0)) (g1 : q4_get lv 1 = some (.ref 3)) (g2 : q4_get lv 2 = some (.ref 99)) (g3 : q4_get lv 3 = some (.int (nI k))) : ql_N L xs lv 1533 M := by
  have hM := h.1
  obtain ⟨M1, M2, z, z', a1, b1, c1, d1, s1, s2⟩ := qp_137 h (xs (k + 1))
  have S1 := ql_Sf s1 hS
  refine ⟨M2, d1, ql_Sf s2 hS, fun r hr => ?_⟩
  refine q62_aload (n := 1) rfl g1 ?_
  refine q62_aload (n := 0) rfl g0 ?_
  refine q62_iload (n := 3) rfl g3 ?_
  refine q62_s (i := .bipush 1) rfl rfl ?_
  refine q62_s (i := .iadd) rfl rfl ?_
  refine ql_ia (j := k + 1) rfl ql_i1 (by omega) hL hM hS ?_
  refine q62_virt (y := 137) (a := 3) (as := [.int (xs (k + 1))]) (rest := []) (v := some (.int z)) rfl hM rfl rfl (of_decide_eq_true rfl) (by decide) a1 ?_
  refine q62_s (i := .pop) rfl rfl ?_
  refine q62_aload (n := 2) rfl g2 ?_
  refine q62_aload (n := 0) rfl g0 ?_
  refine q62_iload (n := 3) rfl g3 ?_
  refine q62_s (i := .bipush 1) rfl rfl ?_
  refine q62_s (i := .iadd) rfl rfl ?_
  refine ql_ia (j := k + 1) rfl ql_i1 (by omega) hL b1 S1 ?_
  refine q62_virt (y := 245) (a := 99) (as := [.int (xs (k + 1))]) (rest := []) (v := some (.int z')) rfl b1 rfl rfl (of_decide_eq_true rfl) (by decide) c1 ?_
  refine q62_s (i := .pop) rfl rfl ?_
  refine q62_s (i := .goto 1730) rfl rfl ?_
  exact hr
theorem ql_c48 (h : ql_I M) (hL : L ≤ 2560) (hS : ql_S L xs M) (hk : k + 5 ≤ L) (g0 : q4_get lv 0 = some (.ref 0)) (g1 : q4_get lv 1 = some (.ref 3)) (g2 : q4_get lv 2 = some (.ref 99)) (g3 : q4_get lv 3 = some (.int (nI k))) : ql_N L xs lv 1556 M := by
  have hM := h.1
  obtain ⟨M1, M2, z, z', a1, b1, c1, d1, s1, s2⟩ := qp_139 h (xs (k + 1))
  have S1 := ql_Sf s1 hS
  refine ⟨M2, d1, ql_Sf s2 hS, fun r hr => ?_⟩
  refine q62_aload (n := 1) rfl g1 ?_
  refine q62_aload (n := 0) rfl g0 ?_
  refine q62_iload (n := 3) rfl g3 ?_
  refine q62_s (i := .bipush 1) rfl rfl ?_
  refine q62_s (i := .iadd) rfl rfl ?_
  refine ql_ia (j := k + 1) rfl ql_i1 (by omega) hL hM hS ?_
  refine q62_virt (y := 139) (a := 3) (as := [.int (xs (k + 1))]) (rest := []) (v := some (.int z)) rfl hM rfl rfl (of_decide_eq_true rfl) (by decide) a1 ?_
  refine q62_s (i := .pop) rfl rfl ?_
  refine q62_aload (n := 2) rfl g2 ?_
  refine q62_aload (n := 0) rfl g0 ?_
  refine q62_iload (n := 3) rfl g3 ?_
  refine q62_s (i := .bipush 1) rfl rfl ?_
  refine q62_s (i := .iadd) rfl rfl ?_
  refine ql_ia (j := k + 1) rfl ql_i1 (by omega) hL b1 S1 ?_
  refine q62_virt (y := 246) (a := 99) (as := [.int (xs (k + 1))]) (rest := []) (v := some (.int z')) rfl b1 rfl rfl (of_decide_eq_true rfl) (by decide) c1 ?_
  refine q62_s (i := .pop) rfl rfl ?_
  refine q62_s (i := .goto 1730) rfl rfl ?_
  exact hr
theorem ql_c49 (h : ql_I M) (hL : L ≤ 2560) (hS : ql_S L xs M) (hk : k + 5 ≤ L) (g0 : q4_get lv 0 = some (.ref 0)) (g1 : q4_get lv 1 = some (.ref 3)) (g2 : q4_get lv 2 = some (.ref 99)) (g3 : q4_get lv 3 = some (.int (nI k))) : ql_N L xs lv 1579 M := by
  have hM := h.1
  obtain ⟨M1, M2, z, z', a1, b1, c1, d1, s1, s2, e1⟩ := qp_140 h (xs (k + 1))
  have S1 := ql_Sf s1 hS
  refine ⟨M2, d1, ql_Sf s2 hS, fun r hr => ?_⟩
  refine q62_aload (n := 1) rfl g1 ?_
  refine q62_aload (n := 0) rfl g0 ?_
  refine q62_iload (n := 3) rfl g3 ?_
  refine q62_s (i := .bipush 1) rfl rfl ?_
  refine q62_s (i := .iadd) rfl rfl ?_
  refine ql_ia (j := k + 1) rfl ql_i1 (by omega) hL hM hS ?_
  refine q62_virt (y := 140) (a := 3) (as := [.int (xs (k + 1))]) (rest := []) (v := some (.int z)) rfl hM rfl rfl (of_decide_eq_true rfl) (by decide) a1 ?_
  refine q62_s (i := .pop) rfl rfl ?_
  refine q62_aload (n := 2) rfl g2 ?_
  refine q62_aload (n := 0) rfl g0 ?_
  refine q62_iload (n := 3) rfl g3 ?_
  refine q62_s (i := .bipush 1) rfl rfl ?_
  refine q62_s (i := .iadd) rfl rfl ?_
  refine ql_ia (j := k + 1) rfl ql_i1 (by omega) hL b1 S1 ?_
  refine q62_virt (y := 247) (a := 99) (as := [.int (xs (k + 1))]) (rest := []) (v := some (.int z')) rfl b1 rfl rfl (of_decide_eq_true rfl) (by decide) c1 ?_
  refine q62_s (i := .pop) rfl rfl ?_
  refine q62_s (i := .goto 1730) rfl rfl ?_
  exact hr
theorem ql_c50 (h : ql_I M) (hL : L ≤ 2560) (hS : ql_S L xs M) (hk : k + 5 ≤ L) (g0 : q4_get lv 0 = some (.ref 0)) (g1 : q4_get lv 1 = some (.ref 3)) (g2 : q4_get lv 2 = some (.ref 99)) (g3 : q4_get lv 3 = some (.int (nI k))) : ql_N L xs lv 1602 M := by
  have hM := h.1
  obtain ⟨M1, M2, z, z', a1, b1, c1, d1, s1, s2, e1⟩ := qp_141 h (xs (k + 1))
  have S1 := ql_Sf s1 hS
  refine ⟨M2, d1, ql_Sf s2 hS, fun r hr => ?_⟩
  refine q62_aload (n := 1) rfl g1 ?_
  refine q62_aload (n := 0) rfl g0 ?_
  refine q62_iload (n := 3) rfl g3 ?_
  refine q62_s (i := .bipush 1) rfl rfl ?_
  refine q62_s (i := .iadd) rfl rfl ?_
  refine ql_ia (j := k + 1) rfl ql_i1 (by omega) hL hM hS ?_
  refine q62_virt (y := 141) (a := 3) (as := [.int (xs (k + 1))]) (rest := []) (v := some (.int z)) rfl hM rfl rfl (of_decide_eq_true rfl) (by decide) a1 ?_
  refine q62_aload (n := 2) rfl g2 ?_
  refine q62_aload (n := 0) rfl g0 ?_
  refine q62_iload (n := 3) rfl g3 ?_
  refine q62_s (i := .bipush 1) rfl rfl ?_
  refine q62_s (i := .iadd) rfl rfl ?_
  refine ql_ia (j := k + 1) rfl ql_i1 (by omega) hL b1 S1 ?_
  refine q62_virt (y := 248) (a := 99) (as := [.int (xs (k + 1))]) (rest := [.int z]) (v := some (.int z')) rfl b1 rfl rfl (of_decide_eq_true rfl) (by decide) c1 ?_
  refine q62_ift (c := .eq) rfl (qa_T_eq e1) ?_
  exact hr
theorem ql_c51 (h : ql_I M) (hL : L ≤ 2560) (hS : ql_S L xs M) (hk : k + 5 ≤ L) (g0 : q4_get lv 0 = some (.ref 0)) (g1 : q4_get lv 1 = some (.ref 3)) (g2 : q4_get lv 2 = some (.ref 99)) (g3 : q4_get lv 3 = some (.int (nI k))) : ql_N L xs lv 1625 M := by
  have hM := h.1
  obtain ⟨M1, M2, z, z', a1, b1, c1, d1, s1, s2, e1⟩ := qp_142 h
  have S1 := ql_Sf s1 hS
  refine ⟨M2, d1, ql_Sf s2 hS, fun r hr => ?_⟩
  refine q62_aload (n := 1) rfl g1 ?_
  refine q62_virt (y := 142) (a := 3) (as := []) (rest := []) (v := some (.int z)) rfl hM rfl rfl (of_decide_eq_true rfl) (by decide) a1 ?_
  refine q62_s (i := .pop) rfl rfl ?_
  refine q62_aload (n := 2) rfl g2 ?_
  refine q62_virt (y := 249) (a := 99) (as := []) (rest := []) (v := some (.int z')) rfl b1 rfl rfl (of_decide_eq_true rfl) (by decide) c1 ?_
  refine q62_s (i := .pop) rfl rfl ?_
  refine q62_s (i := .goto 1730) rfl rfl ?_
  exact hr
theorem ql_c52 (h : ql_I M) (hL : L ≤ 2560) (hS : ql_S L xs M) (hk : k + 5 ≤ L) (g0 : q4_get lv 0 = some (.ref 0)) (g1 : q4_get lv 1 = some (.ref 3)) (g2 : q4_get lv 2 = some (.ref 99)) (g3 : q4_get lv 3 = some (.int (nI k))) : ql_N L xs lv 1638 M := by
  have hM := h.1
  obtain ⟨M1, M2, z, z', a1, b1, c1, d1, s1, s2⟩ := qp_143 h (xs (k + 1)) (xs (k + 2)) (xs (k + 3))
  have S1 := ql_Sf s1 hS
  refine ⟨M2, d1, ql_Sf s2 hS, fun r hr => ?_⟩
  refine q62_aload (n := 1) rfl g1 ?_
  refine q62_aload (n := 0) rfl g0 ?_
  refine q62_iload (n := 3) rfl g3 ?_
  refine q62_s (i := .bipush 1) rfl rfl ?_
  refine q62_s (i := .iadd) rfl rfl ?_
  refine ql_ia (j := k + 1) rfl ql_i1 (by omega) hL hM hS ?_
  refine q62_aload (n := 0) rfl g0 ?_
  refine q62_iload (n := 3) rfl g3 ?_
  refine q62_s (i := .bipush 2) rfl rfl ?_
  refine q62_s (i := .iadd) rfl rfl ?_
  refine ql_ia (j := k + 2) rfl ql_i2 (by omega) hL hM hS ?_
  refine q62_aload (n := 0) rfl g0 ?_
  refine q62_iload (n := 3) rfl g3 ?_
  refine q62_s (i := .bipush 3) rfl rfl ?_
  refine q62_s (i := .iadd) rfl rfl ?_
  refine ql_ia (j := k + 3) rfl ql_i3 (by omega) hL hM hS ?_
  refine q62_virt (y := 143) (a := 3) (as := [.int (xs (k + 1)), .int (xs (k + 2)), .int (xs (k + 3))]) (rest := []) (v := some (.int z)) rfl hM rfl rfl (of_decide_eq_true rfl) (by decide) a1 ?_
  refine q62_s (i := .pop) rfl rfl ?_
  refine q62_aload (n := 2) rfl g2 ?_
  refine q62_aload (n := 0) rfl g0 ?_
  refine q62_iload (n := 3) rfl g3 ?_
  refine q62_s (i := .bipush 1) rfl rfl ?_
  refine q62_s (i := .iadd) rfl rfl ?_
  refine ql_ia (j := k + 1) rfl ql_i1 (by omega) hL b1 S1 ?_
  refine q62_aload (n := 0) rfl g0 ?_
  refine q62_iload (n := 3) rfl g3 ?_
  refine q62_s (i := .bipush 2) rfl rfl ?_
  refine q62_s (i := .iadd) rfl rfl ?_
  refine ql_ia (j := k + 2) rfl ql_i2 (by omega) hL b1 S1 ?_
  refine q62_aload (n := 0) rfl g0 ?_
  refine q62_iload (n := 3) rfl g3 ?_
  refine q62_s (i := .bipush 3) rfl rfl ?_
  refine q62_s (i := .iadd) rfl rfl ?_
  refine ql_ia (j := k + 3) rfl ql_i3 (by omega) hL b1 S1 ?_
  refine q62_virt (y := 250) (a := 99) (as := [.int (xs (k + 1)), .int (xs (k + 2)), .int (xs (k + 3))]) (rest := []) (v := some (.int z')) rfl b1 rfl rfl (of_decide_eq_true rfl) (by decide) c1 ?_
  refine q62_s (i := .pop) rfl rfl ?_
  refine q62_s (i := .goto 1730) rfl rfl ?_
  exact hr
theorem ql_c53 (h : ql_I M) (hL : L ≤ 2560) (hS : ql_S L xs M) (hk : k + 5 ≤ L) (g0 : q4_get lv 0 = some (.ref 0)) (g1 : q4_get lv 1 = some (.ref 3)) (g2 : q4_get lv 2 = some (.ref 99)) (g3 : q4_get lv 3 = some (.int (nI k))) : ql_N L xs lv 1681 M := by
  have hM := h.1
  obtain ⟨M1, M2, z, z', a1, b1, c1, d1, s1, s2, e1⟩ := qp_145 h
  have S1 := ql_Sf s1 hS
  refine ⟨M2, d1, ql_Sf s2 hS, fun r hr => ?_⟩
  refine q62_aload (n := 1) rfl g1 ?_
  refine q62_virt (y := 145) (a := 3) (as := []) (rest := []) (v := some (.int z)) rfl hM rfl rfl (of_decide_eq_true rfl) (by decide) a1 ?_
  refine q62_s (i := .pop) rfl rfl ?_
  refine q62_aload (n := 2) rfl g2 ?_
  refine q62_virt (y := 166) (a := 99) (as := []) (rest := []) (v := some (.int z')) rfl b1 rfl rfl (of_decide_eq_true rfl) (by decide) c1 ?_
  refine q62_s (i := .pop) rfl rfl ?_
  refine q62_s (i := .goto 1730) rfl rfl ?_
  exact hr
theorem ql_c54 (h : ql_I M) (hL : L ≤ 2560) (hS : ql_S L xs M) (hk : k + 5 ≤ L) (g0 : q4_get lv 0 = some (.ref 0)) (g1 : q4_get lv 1 = some (.ref 3)) (g2 : q4_get lv 2 = some (.ref 99)) (g3 : q4_get lv 3 = some (.int (nI k))) : ql_N L xs lv 1694 M := by
  have hM := h.1
  obtain ⟨M1, M2, z, z', a1, b1, c1, d1, s1, s2, e1⟩ := qp_146 h
  have S1 := ql_Sf s1 hS
  refine ⟨M2, d1, ql_Sf s2 hS, fun r hr => ?_⟩
  refine q62_aload (n := 1) rfl g1 ?_
  refine q62_virt (y := 146) (a := 3) (as := []) (rest := []) (v := some (.int z)) rfl hM rfl rfl (of_decide_eq_true rfl) (by decide) a1 ?_
  refine q62_s (i := .pop) rfl rfl ?_
  refine q62_aload (n := 2) rfl g2 ?_
  refine q62_virt (y := 167) (a := 99) (as := []) (rest := []) (v := some (.int z')) rfl b1 rfl rfl (of_decide_eq_true rfl) (by decide) c1 ?_
  refine q62_s (i := .pop) rfl rfl ?_
  refine q62_s (i := .goto 1730) rfl rfl ?_
  exact hr
theorem ql_c55 (h : ql_I M) (hL : L ≤ 2560) (hS : ql_S L xs M) (hk : k + 5 ≤ L) (g0 : q4_get lv 0 = some (.ref 0)) (g1 : q4_get lv 1 = some (.ref 3)) (g2 : q4_get lv 2 = some (.ref 99)) (g3 : q4_get lv 3 = some (.int (nI k))) : ql_N L xs lv 1707 M := by
  have hM := h.1
  obtain ⟨M1, M2, z, z', a1, b1, c1, d1, s1, s2⟩ := qp_147 h (xs (k + 1))
  have S1 := ql_Sf s1 hS
  refine ⟨M2, d1, ql_Sf s2 hS, fun r hr => ?_⟩
  refine q62_aload (n := 1) rfl g1 ?_
  refine q62_aload (n := 0) rfl g0 ?_
  refine q62_iload (n := 3) rfl g3 ?_
  refine q62_s (i := .bipush 1) rfl rfl ?_
  refine q62_s (i := .iadd) rfl rfl ?_
  refine ql_ia (j := k + 1) rfl ql_i1 (by omega) hL hM hS ?_
  refine q62_virt (y := 147) (a := 3) (as := [.int (xs (k + 1))]) (rest := []) (v := some (.int z)) rfl hM rfl rfl (of_decide_eq_true rfl) (by decide) a1 ?_
  refine q62_s (i := .pop) rfl rfl ?_
  refine q62_aload (n := 2) rfl g2 ?_
  refine q62_aload (n := 0) rfl g0 ?_
  refine q62_iload (n := 3) rfl g3 ?_
  refine q62_s (i := .bipush 1) rfl rfl ?_
  refine q62_s (i := .iadd) rfl rfl ?_
  refine ql_ia (j := k + 1) rfl ql_i1 (by omega) hL b1 S1 ?_
  refine q62_virt (y := 251) (a := 99) (as := [.int (xs (k + 1))]) (rest := []) (v := some (.int z')) rfl b1 rfl rfl (of_decide_eq_true rfl) (by decide) c1 ?_
  refine q62_s (i := .pop) rfl rfl ?_
  refine q62_s (i := .goto 1730) rfl rfl ?_
  exact hr
theorem ql_tsw (hk : k + 5 ≤ L) (hL : L ≤ 2560) (hM : q52_M M) (hS : ql_S L xs M) (g0 : q4_get lv 0 = some (.ref 0)) (g3 : q4_get lv 3 = some (.int (nI k))) {T : Nat} {r : Option Value × q4_M} (hT : ∀ st ce sl, q4_step 0 32 240 lv (.int (xs k &&& Int32.ofInt 63) :: st) M ce sl (.tableswitch 1730 0 55 #[272, 295, 308, 341, 374, 417, 460, 493, 536, 579, 592, 625, 668, 711, 734, 757, 790, 813, 836, 849, 882, 895, 928, 951, 964, 1017, 1050, 1083, 1106, 1139, 1152, 1165, 1178, 1191, 1214, 1247, 1260, 1283, 1306, 1329, 1352, 1375, 1398, 1441, 1464, 1487, 1500, 1533, 1556, 1579, 1602, 1625, 1638, 1681, 1694, 1707]) = some (.inl (T, lv, st, M, ce, sl))) (h : q62_ev 0 T lv [] M 121 21249 r) : q62_ev 0 18 lv [] M 121 21249 r := by
  have e5 : (Int32.ofInt 5).toInt = 5 := by decide
  have eL : (((L.toInt32)) - Int32.ofInt 5).toInt = (L : Int) - 5 := by
    rw [Int32.toInt_sub, e5, show ((L.toInt32)).toInt = (L : Int) from q58_len hL]
    exact q53_b32 (by omega) (by omega)
  refine q62_iload (n := 3) rfl g3 ?_
  refine q62_aload (n := 0) rfl g0 ?_
  refine q62_s (i := .arraylength) (st1 := [.int ((L.toInt32)), .int (nI k)]) (M1 := M) (lv1 := lv) rfl (by
    unfold q4_step
    dsimp only
    rw [if_pos ⟨by rw [hM.1]; decide, hM.2.1⟩, hS.1]) ?_
  refine q62_s (i := .bipush 5) rfl rfl ?_
  refine q62_s (i := .isub) rfl rfl ?_
  refine q62_iff (c := .gt) rfl (qa_F_gt (fun c => by rw [Int32.lt_iff_toInt_lt, eL, nI_toInt (by omega)] at c; omega)) ?_
  refine q62_aload (n := 0) rfl g0 ?_
  refine q62_iload (n := 3) rfl g3 ?_
  refine ql_ia (j := k) rfl rfl (by omega) hL hM hS ?_
  refine q62_s (i := .bipush (63)) rfl rfl ?_
  refine q62_s (i := .iand) rfl rfl ?_
  exact q62_s (i := .tableswitch 1730 0 55 #[272, 295, 308, 341, 374, 417, 460, 493, 536, 579, 592, 625, 668, 711, 734, 757, 790, 813, 836, 849, 882, 895, 928, 951, 964, 1017, 1050, 1083, 1106, 1139, 1152, 1165, 1178, 1191, 1214, 1247, 1260, 1283, 1306, 1329, 1352, 1375, 1398, 1441, 1464, 1487, 1500, 1533, 1556, 1579, 1602, 1625, 1638, 1681, 1694, 1707]) rfl (hT [] 121 21249) h
theorem ql_d {x : Int32} {n : Nat} (h : x.toInt = (n : Int)) (hn : n < 2147483648) : x = nI n := Int32.toInt_inj.mp (h.trans (nI_toInt hn).symm)
theorem ql_one (h : ql_I M) (hL : L ≤ 2560) (hS : ql_S L xs M) (hk : k + 5 ≤ L) (g0 : q4_get lv 0 = some (.ref 0)) (g1 : q4_get lv 1 = some (.ref 3)) (g2 : q4_get lv 2 = some (.ref 99)) (g3 : q4_get lv 3 = some (.int (nI k))) : ql_N L xs lv 18 M := by
  have hM := h.1
  have a0 := q53_andr (x := xs k) (y := Int32.ofInt 63) (by decide)
  have e63 : (Int32.ofInt 63).toInt = 63 := by decide
  obtain ⟨d, hd⟩ : ∃ d : Nat, (xs k &&& Int32.ofInt 63).toInt = (d : Int) := ⟨(xs k &&& Int32.ofInt 63).toInt.toNat, by omega⟩
  have hx := ql_d hd (by omega)
  have go : ∀ T, (∀ st ce sl, q4_step 0 32 240 lv (.int (nI d) :: st) M ce sl (.tableswitch 1730 0 55 #[272, 295, 308, 341, 374, 417, 460, 493, 536, 579, 592, 625, 668, 711, 734, 757, 790, 813, 836, 849, 882, 895, 928, 951, 964, 1017, 1050, 1083, 1106, 1139, 1152, 1165, 1178, 1191, 1214, 1247, 1260, 1283, 1306, 1329, 1352, 1375, 1398, 1441, 1464, 1487, 1500, 1533, 1556, 1579, 1602, 1625, 1638, 1681, 1694, 1707]) = some (.inl (T, lv, st, M, ce, sl))) → ql_N L xs lv T M → ql_N L xs lv 18 M := by
    intro T hT ⟨M', q1, q2, q3⟩
    exact ⟨M', q1, q2, fun r hr => ql_tsw hk hL hM hS g0 g3 (fun st ce sl => by rw [hx]; exact hT st ce sl) (q3 r hr)⟩
  have hdj : d = 0 ∨ d = 1 ∨ d = 2 ∨ d = 3 ∨ d = 4 ∨ d = 5 ∨ d = 6 ∨ d = 7 ∨ d = 8 ∨ d = 9 ∨ d = 10 ∨ d = 11 ∨ d = 12 ∨ d = 13 ∨ d = 14 ∨ d = 15 ∨ d = 16 ∨ d = 17 ∨ d = 18 ∨ d = 19 ∨ d = 20 ∨ d = 21 ∨ d = 22 ∨ d = 23 ∨ d = 24 ∨ d = 25 ∨ d = 26 ∨ d = 27 ∨ d = 28 ∨ d = 29 ∨ d = 30 ∨ d = 31 ∨ d = 32 ∨ d = 33 ∨ d = 34 ∨ d = 35 ∨ d = 36 ∨ d = 37 ∨ d = 38 ∨ d = 39 ∨ d = 40 ∨ d = 41 ∨ d = 42 ∨ d = 43 ∨ d = 44 ∨ d = 45 ∨ d = 46 ∨ d = 47 ∨ d = 48 ∨ d = 49 ∨ d = 50 ∨ d = 51 ∨ d = 52 ∨ d = 53 ∨ d = 54 ∨ d = 55 ∨ 56 ≤ d := by omega
  rcases hdj with rfl | rfl | rfl | rfl | rfl | rfl | rfl | rfl | rfl | rfl | rfl | rfl | rfl | rfl | rfl | rfl | rfl | rfl | rfl | rfl | rfl | rfl | rfl | rfl | rfl | rfl | rfl | rfl | rfl | rfl | rfl | rfl | rfl | rfl | rfl | rfl | rfl | rfl | rfl | rfl | rfl | rfl | rfl | rfl | rfl | rfl | rfl | rfl | rfl | rfl | rfl | rfl | rfl | rfl | rfl | rfl | h56
  · exact go 272 (fun _ _ _ => rfl) (ql_c0 h hL hS hk g0 g1 g2 g3)
  · exact go 295 (fun _ _ _ => rfl) (ql_c1 h hL hS hk g0 g1 g2 g3)
  · exact go 308 (fun _ _ _ => rfl) (ql_c2 h hL hS hk g0 g1 g2 g3)
  · exact go 341 (fun _ _ _ => rfl) (ql_c3 h hL hS hk g0 g1 g2 g3)
  · exact go 374 (fun _ _ _ => rfl) (ql_c4 h hL hS hk g0 g1 g2 g3)
  · exact go 417 (fun _ _ _ => rfl) (ql_c5 h hL hS hk g0 g1 g2 g3)
  · exact go 460 (fun _ _ _ => rfl) (ql_c6 h hL hS hk g0 g1 g2 g3)
  · exact go 493 (fun _ _ _ => rfl) (ql_c7 h hL hS hk g0 g1 g2 g3)
  · exact go 536 (fun _ _ _ => rfl) (ql_c8 h hL hS hk g0 g1 g2 g3)
  · exact go 579 (fun _ _ _ => rfl) (ql_c9 h hL hS hk g0 g1 g2 g3)
  · exact go 592 (fun _ _ _ => rfl) (ql_c10 h hL hS hk g0 g1 g2 g3)
  · exact go 625 (fun _ _ _ => rfl) (ql_c11 h hL hS hk g0 g1 g2 g3)
  · exact go 668 (fun _ _ _ => rfl) (ql_c12 h hL hS hk g0 g1 g2 g3)
  · exact go 711 (fun _ _ _ => rfl) (ql_c13 h hL hS hk g0 g1 g2 g3)
  · exact go 734 (fun _ _ _ => rfl) (ql_c14 h hL hS hk g0 g1 g2 g3)
  · exact go 757 (fun _ _ _ => rfl) (ql_c15 h hL hS hk g0 g1 g2 g3)
  · exact go 790 (fun _ _ _ => rfl) (ql_c16 h hL hS hk g0 g1 g2 g3)
  · exact go 813 (fun _ _ _ => rfl) (ql_c17 h hL hS hk g0 g1 g2 g3)
  · exact go 836 (fun _ _ _ => rfl) (ql_c18 h hL hS hk g0 g1 g2 g3)
  · exact go 849 (fun _ _ _ => rfl) (ql_c19 h hL hS hk g0 g1 g2 g3)
  · exact go 882 (fun _ _ _ => rfl) (ql_c20 h hL hS hk g0 g1 g2 g3)
  · exact go 895 (fun _ _ _ => rfl) (ql_c21 h hL hS hk g0 g1 g2 g3)
  · exact go 928 (fun _ _ _ => rfl) (ql_c22 h hL hS hk g0 g1 g2 g3)
  · exact go 951 (fun _ _ _ => rfl) (ql_c23 h hL hS hk g0 g1 g2 g3)
  · exact go 964 (fun _ _ _ => rfl) (ql_c24 h hL hS hk g0 g1 g2 g3)
  · exact go 1017 (fun _ _ _ => rfl) (ql_c25 h hL hS hk g0 g1 g2 g3)
  · exact go 1050 (fun _ _ _ => rfl) (ql_c26 h hL hS hk g0 g1 g2 g3)
  · exact go 1083 (fun _ _ _ => rfl) (ql_c27 h hL hS hk g0 g1 g2 g3)
  · exact go 1106 (fun _ _ _ => rfl) (ql_c28 h hL hS hk g0 g1 g2 g3)
  · exact go 1139 (fun _ _ _ => rfl) (ql_c29 h hL hS hk g0 g1 g2 g3)
  · exact go 1152 (fun _ _ _ => rfl) (ql_c30 h hL hS hk g0 g1 g2 g3)
  · exact go 1165 (fun _ _ _ => rfl) (ql_c31 h hL hS hk g0 g1 g2 g3)
  · exact go 1178 (fun _ _ _ => rfl) (ql_c32 h hL hS hk g0 g1 g2 g3)
  · exact go 1191 (fun _ _ _ => rfl) (ql_c33 h hL hS hk g0 g1 g2 g3)
  · exact go 1214 (fun _ _ _ => rfl) (ql_c34 h hL hS hk g0 g1 g2 g3)
  · exact go 1247 (fun _ _ _ => rfl) (ql_c35 h hL hS hk g0 g1 g2 g3)
  · exact go 1260 (fun _ _ _ => rfl) (ql_c36 h hL hS hk g0 g1 g2 g3)
  · exact go 1283 (fun _ _ _ => rfl) (ql_c37 h hL hS hk g0 g1 g2 g3)
  · exact go 1306 (fun _ _ _ => rfl) (ql_c38 h hL hS hk g0 g1 g2 g3)
  · exact go 1329 (fun _ _ _ => rfl) (ql_c39 h hL hS hk g0 g1 g2 g3)
  · exact go 1352 (fun _ _ _ => rfl) (ql_c40 h hL hS hk g0 g1 g2 g3)
  · exact go 1375 (fun _ _ _ => rfl) (ql_c41 h hL hS hk g0 g1 g2 g3)
  · exact go 1398 (fun _ _ _ => rfl) (ql_c42 h hL hS hk g0 g1 g2 g3)
  · exact go 1441 (fun _ _ _ => rfl) (ql_c43 h hL hS hk g0 g1 g2 g3)
  · exact go 1464 (fun _ _ _ => rfl) (ql_c44 h hL hS hk g0 g1 g2 g3)
  · exact go 1487 (fun _ _ _ => rfl) (ql_c45 h hL hS hk g0 g1 g2 g3)
  · exact go 1500 (fun _ _ _ => rfl) (ql_c46 h hL hS hk g0 g1 g2 g3)
  · exact go 1533 (fun _ _ _ => rfl) (ql_c47 h hL hS hk g0 g1 g2 g3)
  · exact go 1556 (fun _ _ _ => rfl) (ql_c48 h hL hS hk g0 g1 g2 g3)
  · exact go 1579 (fun _ _ _ => rfl) (ql_c49 h hL hS hk g0 g1 g2 g3)
  · exact go 1602 (fun _ _ _ => rfl) (ql_c50 h hL hS hk g0 g1 g2 g3)
  · exact go 1625 (fun _ _ _ => rfl) (ql_c51 h hL hS hk g0 g1 g2 g3)
  · exact go 1638 (fun _ _ _ => rfl) (ql_c52 h hL hS hk g0 g1 g2 g3)
  · exact go 1681 (fun _ _ _ => rfl) (ql_c53 h hL hS hk g0 g1 g2 g3)
  · exact go 1694 (fun _ _ _ => rfl) (ql_c54 h hL hS hk g0 g1 g2 g3)
  · exact go 1707 (fun _ _ _ => rfl) (ql_c55 h hL hS hk g0 g1 g2 g3)
  · refine go 1730 (fun st ce sl => ?_) ⟨M, h, hS, fun r hr => hr⟩
    unfold q4_step
    dsimp only
    rw [if_pos (Or.inr (by rw [nI_toInt (by omega)]; omega))]
    rfl
end QL
theorem ql_loop {L : Nat} {xs : Nat → Int32} (hL : L ≤ 2560) : ∀ (d k : Nat) (M : q4_M) (lv : List (Nat × Value)), L - k ≤ d → k ≤ 2565 → ql_I M → ql_S L xs M → q4_get lv 0 = some (.ref 0) → q4_get lv 1 = some (.ref 3) → q4_get lv 2 = some (.ref 99) → q4_get lv 3 = some (.int (nI k)) → ∃ M', q62_ev 0 18 lv [] M 121 21249 (some (.int 1), M') := by
  have ex : ∀ (k : Nat) (M : q4_M) (lv : List (Nat × Value)), ¬ k + 5 ≤ L → k ≤ 2565 → ql_I M → ql_S L xs M → q4_get lv 0 = some (.ref 0) → q4_get lv 3 = some (.int (nI k)) → ∃ M', q62_ev 0 18 lv [] M 121 21249 (some (.int 1), M') := by
    intro k M lv hk hk2 h hS g0 g3
    have hM := h.1
    have e5 : (Int32.ofInt 5).toInt = 5 := by decide
    have eL : (((L.toInt32)) - Int32.ofInt 5).toInt = (L : Int) - 5 := by
      rw [Int32.toInt_sub, e5, show ((L.toInt32)).toInt = (L : Int) from q58_len hL]
      exact q53_b32 (by omega) (by omega)
    refine ⟨M, ?_⟩
    refine q62_iload (n := 3) rfl g3 ?_
    refine q62_aload (n := 0) rfl g0 ?_
    refine q62_s (i := .arraylength) (st1 := [.int ((L.toInt32)), .int (nI k)]) (M1 := M) (lv1 := lv) rfl (by
      unfold q4_step
      dsimp only
      rw [if_pos ⟨by rw [hM.1]; decide, hM.2.1⟩, hS.1]) ?_
    refine q62_s (i := .bipush 5) rfl rfl ?_
    refine q62_s (i := .isub) rfl rfl ?_
    refine q62_ift (c := .gt) rfl (qa_T_gt (by rw [Int32.lt_iff_toInt_lt, eL, nI_toInt (by omega)]; omega)) ?_
    refine q62_s (i := .bipush 1) rfl rfl ?_
    exact q62_r (i := .ireturn) rfl rfl
  intro d
  induction d with
  | zero => intro k M lv hd hk h hS g0 g1 g2 g3; exact ex k M lv (by omega) hk h hS g0 g3
  | succ d ih =>
    intro k M lv hd hk h hS g0 g1 g2 g3
    by_cases hk5 : k + 5 ≤ L
    · obtain ⟨M1, q1, q2, q3⟩ := ql_one h hL hS hk5 g0 g1 g2 g3
      obtain ⟨M', h'⟩ := ih (k + 5) M1 (q4_st1 lv 3 (.int (nI (k + 5)))) (by omega) (by omega) q1 q2 (q62_g2 g0 rfl (by decide)) (q62_g2 g1 rfl (by decide)) (q62_g2 g2 rfl (by decide)) q62_g1
      refine ⟨M', q3 _ ?_⟩
      refine q62_iinc (n := 3) (v := 5) rfl g3 (by decide) ?_
      rw [ql_i5]
      refine q62_s (i := .goto 18) rfl rfl ?_
      exact h'
    · exact ex k M lv hk5 hk h hS g0 g3
/-- what the constructors made holds -/
theorem ql_I0 {σ : qa_S} (hz : ∀ a j, (a, j) ∈ q82_zs → a ≠ 0 → σ a j = 0) : qb_I False False σ := by
  have z0 : (0 : Int32).toInt = 0 := by decide
  have zr : ∀ a n j, (a, n) ∈ q82_zz → j < n → a ≠ 0 → σ a j = 0 := fun a n j ha hj h0 => hz a j (List.mem_append.mpr (Or.inr (List.mem_flatMap.mpr ⟨(a, n), ha, List.mem_map.mpr ⟨j, List.mem_range.mpr hj, rfl⟩⟩))) h0
  have h9 : ∀ c, c < 7 → (9 + c, 4) ∈ q82_zz := by decide
  have h32 : ∀ c, c < 7 → (32 + c, 4) ∈ q82_zz := by decide
  have c4 : ∀ i, i < 69 → qb_gc 4 σ i = 0 := qb_call (V := fun _ => 0) (hz 4 0 (by decide) (by decide)) (hz 4 1 (by decide) (by decide)) (fun c hc => zr 5 7 c (by decide) hc (by decide)) (fun c hc => zr 6 7 c (by decide) hc (by decide)) (fun c hc => zr 7 7 c (by decide) hc (by decide)) (fun c m hc hm => zr (9 + c) 4 m (h9 c hc) hm (by omega)) (fun t ht => zr 24 6 t (by decide) ht (by decide)) (fun t ht => zr 25 6 t (by decide) ht (by decide)) (fun t ht => zr 26 6 t (by decide) ht (by decide))
  have c27 : ∀ i, i < 69 → qb_gc 27 σ i = 0 := qb_call (V := fun _ => 0) (hz 27 0 (by decide) (by decide)) (hz 27 1 (by decide) (by decide)) (fun c hc => zr 28 7 c (by decide) hc (by decide)) (fun c hc => zr 29 7 c (by decide) hc (by decide)) (fun c hc => zr 30 7 c (by decide) hc (by decide)) (fun c m hc hm => zr (32 + c) 4 m (h32 c hc) hm (by omega)) (fun t ht => zr 47 6 t (by decide) ht (by decide)) (fun t ht => zr 48 6 t (by decide) ht (by decide)) (fun t ht => zr 49 6 t (by decide) ht (by decide))
  have cm : ∀ i, i < 69 → qb_gm σ i = 0 := qb_mall (V := fun _ => 0) (hz 99 0 (by decide) (by decide)) (hz 99 5 (by decide) (by decide)) (fun c hc => zr 100 7 c (by decide) hc (by decide)) (fun c hc => zr 101 7 c (by decide) hc (by decide)) (fun c hc => zr 103 7 c (by decide) hc (by decide)) (fun c m hc hm => zr 102 28 (4 * c + m) (by decide) (by omega) (by decide)) (fun t ht => zr 104 6 t (by decide) ht (by decide)) (fun t ht => zr 105 6 t (by decide) ht (by decide)) (fun t ht => zr 106 6 t (by decide) ht (by decide))
  have c118 : ∀ i, i < 69 → σ 118 i = 0 := fun i hi => zr 118 69 i (by decide) hi (by decide)
  have hD : ∀ V : Nat → Int32, (∀ i, i < 69 → V i = 0) → qb_D V := fun V h i hi => by rw [h i hi, z0]; omega
  refine ⟨⟨fun i hi => (c4 i hi).trans (cm i hi).symm, hD _ cm⟩, ⟨fun i hi => (c27 i hi).trans (c118 i hi).symm, hD _ c118, (hz 3 17 (by decide) (by decide)).trans (hz 99 26 (by decide) (by decide)).symm⟩, ⟨(hz 83 0 (by decide) (by decide)).trans (hz 99 17 (by decide) (by decide)).symm, ⟨0, by omega, hz 83 0 (by decide) (by decide)⟩, fun i hi => (zr 84 96 i (by decide) hi (by decide)).trans (zr 113 96 i (by decide) hi (by decide)).symm⟩, ⟨0, by omega, hz 85 0 (by decide) (by decide), hz 99 32 (by decide) (by decide), fun j hj => absurd hj (Nat.not_lt_zero _)⟩, ⟨⟨0, by omega, hz 3 16 (by decide) (by decide)⟩, (hz 3 16 (by decide) (by decide)).trans (hz 99 35 (by decide) (by decide)).symm, fun i hi => (zr 92 12 i (by decide) hi (by decide)).trans (zr 122 12 i (by decide) hi (by decide)).symm⟩, fun h => h.elim, fun c m hc hm => ?_, fun h => h.elim⟩
  rw [cm 0 (by omega), z0] at hc
  omega
theorem q83_law {L : Nat} (hL : L ≤ 2560) (xs : Nat → Int32) : ∃ M', q62_ev 0 0 [(0, .ref 0)] [] (q82_N0 (0, L, fun j => .int (xs j))) 0 0 (some (.int 1), M') := by
  obtain ⟨x, ex⟩ : ∃ x : q4_C, x = (0, L, fun j => .int (xs j)) := ⟨_, rfl⟩
  rw [← ex]
  obtain ⟨N1, N2, n1, ok1, n2, ok2, e1, e2, cells, zs, js⟩ := q82_made x
  have c0 : (q81_sw N2 x).2 0 = x := rfl
  have ca : ∀ {a : Nat}, a ≠ 0 → (q81_sw N2 x).2 a = N2.2 a := fun h => q81_2 N2 x h
  have hM : q52_M (q81_sw N2 x) := by
    refine ⟨n2, by rw [c0, ex], ?_, by rw [c0, ex]; exact hL, fun a a0 a1 => ?_⟩
    · rw [c0, ex]
      exact fun j _ => ⟨_, rfl⟩
    · rw [ca (by omega)]
      exact cells a a0 a1
  have hJ : q60_J (q81_sw N2 x) := by
    intro i hi v h1 h2
    rw [ca (by decide), js i hi] at h1
    exact absurd h1 (by decide)
  have zz : ∀ a j, (a, j) ∈ q82_zs → a ≠ 0 → qa_s (q81_sw N2 x) a j = 0 := fun a j hz ha => by
    unfold qa_s
    rw [ca ha, zs (a, j) hz]
  have zr : ∀ a n j, (a, n) ∈ q82_zz → j < n → (a, j) ∈ q82_zs := fun a n j ha hj => List.mem_append.mpr (Or.inr (List.mem_flatMap.mpr ⟨(a, n), ha, List.mem_map.mpr ⟨j, List.mem_range.mpr hj, rfl⟩⟩))
  have hI : ql_I (q81_sw N2 x) := ⟨hM, hJ, ql_I0 (fun a j hz ha => zz a j hz ha)⟩
  obtain ⟨lv, elv⟩ : ∃ lv, lv = q4_st1 (q4_st1 (q4_st1 [(0, .ref 0)] 1 (.ref 3)) 2 (.ref 99)) 3 (.int (Int32.ofInt 0)) := ⟨_, rfl⟩
  have g0 : q4_get lv 0 = some (.ref 0) := by rw [elv]; exact q62_g2 (q62_g2 (q62_g2 rfl rfl (by decide)) rfl (by decide)) rfl (by decide)
  have g1 : q4_get lv 1 = some (.ref 3) := by rw [elv]; exact q62_g2 (q62_g2 q62_g1 rfl (by decide)) rfl (by decide)
  have g2 : q4_get lv 2 = some (.ref 99) := by rw [elv]; exact q62_g2 q62_g1 rfl (by decide)
  have g3 : q4_get lv 3 = some (.int (Int32.ofInt 0)) := by rw [elv]; exact q62_g1
  have zero : (Int32.ofInt 0).toInt = 0 := by decide
  have hS : ql_S L xs (q81_sw N2 x) := by
    refine ⟨by rw [c0, ex], fun j => by rw [c0, ex]⟩
  obtain ⟨M', hev⟩ := ql_loop hL (L + 1) 0 (q81_sw N2 x) lv (by omega) (by omega) hI hS g0 g1 g2 g3
  refine ⟨M', ?_⟩
  refine q62_s (i := .new 6) (pc1 := 3) (lv1 := [(0, .ref 0)]) (st1 := [.ref 3]) (M1 := q4_new (q82_N0 x) (8, q2_N 6, fun j => defaultValue (q2_ty 6 j))) (ce1 := 1) (sl1 := 19) rfl rfl ?_
  refine q62_s (i := .dup) rfl rfl ?_
  refine q62_c (i := .invokespecial 1) (y := 1) (as := [.ref 3]) (rest := [.ref 3]) (v := none) (M1 := q81_sw N1 x) rfl rfl e1 ?_
  refine q62_s (i := .astore 1) (pc1 := 8) (lv1 := q4_st1 [(0, .ref 0)] 1 (.ref 3)) (st1 := []) (M1 := q81_sw N1 x) (ce1 := 96) (sl1 := 15602) rfl rfl ?_
  refine q62_s (i := .new 7) (pc1 := 11) (lv1 := q4_st1 [(0, .ref 0)] 1 (.ref 3)) (st1 := [.ref 99]) (M1 := q4_new (q81_sw N1 x) (9, q2_N 7, fun j => defaultValue (q2_ty 7 j))) (ce1 := 97) (sl1 := 15639) rfl (by
    unfold q4_step
    dsimp only
    rw [if_pos (by decide), q81_1, n1]
    rfl) ?_
  refine q62_s (i := .dup) rfl rfl ?_
  refine q62_c (i := .invokespecial 150) (y := 150) (as := [.ref 99]) (rest := [.ref 99]) (v := none) (M1 := q81_sw N2 x) rfl (by
    unfold q4_step
    dsimp only
    unfold q4_call
    dsimp only
    rw [if_pos (of_decide_eq_true rfl)]
    show (if 99 < N1.1 + 1 ∧ (if 99 = (q81_sw N1 x).1 then ((9, q2_N 7, fun j => defaultValue (q2_ty 7 j)) : q4_C) else (q81_sw N1 x).2 99).1 = q2_own 150 + 2 ∧ q2_own 150 < 8 then some (.inr (.inl (150, [.ref 99], [.ref 99])) : q4_R) else none) = _
    rw [q81_1, n1, if_pos (c := 99 = 99) rfl, if_pos (by decide)]) e2 ?_
  refine q62_s (i := .astore 2) (pc1 := 16) (lv1 := q4_st1 (q4_st1 [(0, .ref 0)] 1 (.ref 3)) 2 (.ref 99)) (st1 := []) (M1 := q81_sw N2 x) (ce1 := 121) (sl1 := 21249) rfl rfl ?_
  refine q62_s (i := .bipush 0) rfl rfl ?_
  refine q62_istore (n := 3) rfl (by decide) ?_
  rw [← elv]
  exact hev
