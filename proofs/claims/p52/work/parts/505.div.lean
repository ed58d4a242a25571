/-! the divisor of the reference: Euclid's steps end -/
theorem q72_b64 (z : Int) (h1 : -9223372036854775808 ≤ z) (h2 : z ≤ 9223372036854775807) : z.bmod (2 ^ 64) = z := q53_b64 h1 h2
theorem q72_rem (X Y : Int64) (hy : Y ≠ 0) : (X - X / Y * Y).toInt.natAbs < Y.toInt.natAbs := by
  have hY0 : Y.toInt ≠ 0 := fun e => hy (Int64.toInt_inj.mp (by rw [e]; decide))
  have hY := q53_r64 Y
  have e : X.toInt - X.toInt.tdiv Y.toInt * Y.toInt = X.toInt.tmod Y.toInt := by rw [Int.tmod_def, Int.mul_comm]
  have hlt : (X.toInt.tmod Y.toInt).natAbs < Y.toInt.natAbs := by
    rw [Int.natAbs_tmod]
    exact Nat.mod_lt _ (by omega)
  have e2 : (X - X / Y * Y).toInt = X.toInt.tmod Y.toInt := by
    rw [Int64.toInt_sub, Int64.toInt_mul, Int64.toInt_div, Int.sub_bmod_bmod]
    have e3 : (X.toInt - (X.toInt.tdiv Y.toInt).bmod (2 ^ 64) * Y.toInt).bmod (2 ^ 64) = (X.toInt - X.toInt.tdiv Y.toInt * Y.toInt).bmod (2 ^ 64) := by
      rw [← Int.sub_bmod_bmod, Int.bmod_mul_bmod, Int.sub_bmod_bmod]
    rw [e3, e]
    exact q53_b64 (by omega) (by omega)
  rw [e2]
  exact hlt
theorem q72_loop {M : q4_M} : ∀ (n : Nat) (x y : Int64) (lv : List (Nat × Value)), y.toInt.natAbs < n → q4_get lv 4 = some (.long x) → q4_get lv 6 = some (.long y) → x ≠ 0 → ∃ z : Int64, z ≠ 0 ∧ q62_ev 204 17 lv [] M 0 0 (some (.long z), M) := by
  intro n
  induction n with
  | zero => intro x y lv h; exact absurd h (Nat.not_lt_zero _)
  | succ n ih =>
    intro x y lv hn h4 h6 hx
    by_cases hy : y = 0
    · refine ⟨x, hx, ?_⟩
      refine q62_lload (n := 6) rfl h6 ?_
      refine q62_s (i := .sipush 0) rfl rfl ?_
      refine q62_s (i := .lcmp) rfl rfl ?_
      subst hy
      refine q62_ict (c := .eq) rfl (by decide) ?_
      refine q62_lload (n := 4) rfl h4 ?_
      exact q62_r (i := .lreturn) rfl rfl
    · have h8 : q4_get (q4_st2 (q4_st2 (q4_st2 lv 8 (.long (x - x / y * y))) 4 (.long y)) 6 (.long (x - x / y * y))) 4 = some (.long y) := q62_g4 q62_g3 (by decide) (by decide) (by decide)
      have h9 : q4_get (q4_st2 (q4_st2 (q4_st2 lv 8 (.long (x - x / y * y))) 4 (.long y)) 6 (.long (x - x / y * y))) 6 = some (.long (x - x / y * y)) := q62_g3
      have hr := q72_rem x y hy
      obtain ⟨z, hz, hev⟩ := ih y (x - x / y * y) _ (by omega) h8 h9 hy
      refine ⟨z, hz, ?_⟩
      refine q62_lload (n := 6) rfl h6 ?_
      refine q62_s (i := .sipush 0) rfl rfl ?_
      refine q62_s (i := .lcmp) rfl rfl ?_
      refine q62_icf (c := .eq) rfl ?_ ?_
      · unfold lg_cmp q4_icmp
        by_cases hg : y > Int64.ofInt 0
        · rw [if_pos hg]; decide
        · rw [if_neg hg, if_neg (show ¬ y = Int64.ofInt 0 from hy)]; decide
      · refine q62_lload (n := 4) rfl h4 ?_
        refine q62_lload (n := 6) rfl h6 ?_
        refine q62_s (i := .lrem) rfl (by unfold q4_step; dsimp only; rw [if_neg hy]) ?_
        refine q62_lstore (n := 8) rfl (by decide) ?_
        refine q62_lload (n := 6) rfl (q62_g4 h6 (by decide) (by decide) (by decide)) ?_
        refine q62_lstore (n := 4) rfl (by decide) ?_
        refine q62_lload (n := 8) rfl (q62_g4 q62_g3 (by decide) (by decide) (by decide)) ?_
        refine q62_lstore (n := 6) rfl (by decide) ?_
        exact q62_s (i := .goto 17) rfl rfl hev
theorem q72_div {M : q4_M} (a b : Int64) (lv : List (Nat × Value)) (h0 : q4_get lv 0 = some (.long a)) (h2 : q4_get lv 2 = some (.long b)) (ha : a ≠ 0) : ∃ z : Int64, z ≠ 0 ∧ q62_ev 204 0 lv [] M 0 0 (some (.long z), M) := by
  have key : ∀ x : Int64, x ≠ 0 → ∃ z : Int64, z ≠ 0 ∧ q62_ev 204 12 lv [.long x] M 0 0 (some (.long z), M) := by
    intro x hx
    obtain ⟨z, hz, hev⟩ := q72_loop (M := M) _ x b (q4_st2 (q4_st2 lv 4 (.long x)) 6 (.long b)) (Nat.lt_succ_self _) (q62_g4 q62_g3 (by decide) (by decide) (by decide)) q62_g3 hx
    refine ⟨z, hz, ?_⟩
    refine q62_lstore (n := 4) rfl (by decide) ?_
    refine q62_lload (n := 2) rfl (q62_g4 h2 (by decide) (by decide) (by decide)) ?_
    exact q62_lstore (n := 6) rfl (by decide) hev
  by_cases hc : q4_icmp .ge (lg_cmp a (Int64.ofInt 0)) 0 = true
  · obtain ⟨z, hz, hev⟩ := key a ha
    refine ⟨z, hz, ?_⟩
    refine q62_lload (n := 0) rfl h0 ?_
    refine q62_s (i := .sipush 0) rfl rfl ?_
    refine q62_s (i := .lcmp) rfl rfl ?_
    refine q62_ict (c := .ge) rfl hc ?_
    exact q62_lload (n := 0) rfl h0 hev
  · have hc : q4_icmp .ge (lg_cmp a (Int64.ofInt 0)) 0 = false := by
      cases h : q4_icmp .ge (lg_cmp a (Int64.ofInt 0)) 0 with
      | false => rfl
      | true => exact absurd h hc
    obtain ⟨z, hz, hev⟩ := key (-a) (fun e => ha (by have h5 := congrArg (fun z : Int64 => -z) e; simpa using h5))
    refine ⟨z, hz, ?_⟩
    refine q62_lload (n := 0) rfl h0 ?_
    refine q62_s (i := .sipush 0) rfl rfl ?_
    refine q62_s (i := .lcmp) rfl rfl ?_
    refine q62_icf (c := .ge) rfl hc ?_
    refine q62_lload (n := 0) rfl h0 ?_
    refine q62_s (i := .lneg) rfl rfl ?_
    exact q62_s (i := .goto 12) rfl rfl hev
