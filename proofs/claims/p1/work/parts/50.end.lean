/-! the code is checked, all of it -/
theorem q40_r {k a n pc : Nat} (h : q3_ckr k a n = true) (h1 : a ≤ pc) (h2 : pc < a + n) : q3_ck k pc = true := by
  have h3 := List.all_eq_true.mp h (pc - a) (List.mem_range.mpr (by omega))
  rw [show a + (pc - a) = pc by omega] at h3
  exact h3
theorem q40_m {k b n pc : Nat} (h : (List.range n).all (fun k => bif Nat.beq (k + b) 0 then true else q3_ckr (k + b) 0 320) = true) (h0 : k ≠ 0) (h1 : b ≤ k) (h2 : k < b + n) (h3 : pc < 320) : q3_ck k pc = true := by
  have h4 := List.all_eq_true.mp h (k - b) (List.mem_range.mpr (by omega))
  rw [show k - b + b = k by omega] at h4
  have hb : Nat.beq k 0 = false := by
    cases hz : Nat.beq k 0 with
    | true => exact absurd (Nat.eq_of_beq_eq_true hz) h0
    | false => rfl
  rw [hb, cond_false] at h4
  exact q40_r h4 (Nat.zero_le _) (by omega)
theorem q40_ck : ∀ k pc, k < q2_n → pc < (bif Nat.beq k 0 then 1792 else 320) → q3_ck k pc = true := by
  intro k pc hk hpc
  by_cases h0 : k = 0
  · subst h0
    have hpc : pc < 1792 := hpc
    rcases Nat.lt_or_ge pc 112 with g | g
    · exact q40_r q3_l0 (by omega) (by omega)
    rcases Nat.lt_or_ge pc 224 with g | g
    · exact q40_r q3_l1 (by omega) (by omega)
    rcases Nat.lt_or_ge pc 336 with g | g
    · exact q40_r q3_l2 (by omega) (by omega)
    rcases Nat.lt_or_ge pc 448 with g | g
    · exact q40_r q3_l3 (by omega) (by omega)
    rcases Nat.lt_or_ge pc 560 with g | g
    · exact q40_r q3_l4 (by omega) (by omega)
    rcases Nat.lt_or_ge pc 672 with g | g
    · exact q40_r q3_l5 (by omega) (by omega)
    rcases Nat.lt_or_ge pc 784 with g | g
    · exact q40_r q3_l6 (by omega) (by omega)
    rcases Nat.lt_or_ge pc 896 with g | g
    · exact q40_r q3_l7 (by omega) (by omega)
    rcases Nat.lt_or_ge pc 1008 with g | g
    · exact q40_r q3_l8 (by omega) (by omega)
    rcases Nat.lt_or_ge pc 1120 with g | g
    · exact q40_r q3_l9 (by omega) (by omega)
    rcases Nat.lt_or_ge pc 1232 with g | g
    · exact q40_r q3_l10 (by omega) (by omega)
    rcases Nat.lt_or_ge pc 1344 with g | g
    · exact q40_r q3_l11 (by omega) (by omega)
    rcases Nat.lt_or_ge pc 1456 with g | g
    · exact q40_r q3_l12 (by omega) (by omega)
    rcases Nat.lt_or_ge pc 1568 with g | g
    · exact q40_r q3_l13 (by omega) (by omega)
    rcases Nat.lt_or_ge pc 1680 with g | g
    · exact q40_r q3_l14 (by omega) (by omega)
    exact q40_r q3_l15 (by omega) (by omega)
  · have hb : Nat.beq k 0 = false := by
      cases hz : Nat.beq k 0 with
      | true => exact absurd (Nat.eq_of_beq_eq_true hz) h0
      | false => rfl
    rw [hb, cond_false] at hpc
    have hk : k < 252 := hk
    rcases Nat.lt_or_ge k 16 with g | g
    · exact q40_m q3_k0 h0 (by omega) (by omega) hpc
    rcases Nat.lt_or_ge k 32 with g | g
    · exact q40_m q3_k1 h0 (by omega) (by omega) hpc
    rcases Nat.lt_or_ge k 48 with g | g
    · exact q40_m q3_k2 h0 (by omega) (by omega) hpc
    rcases Nat.lt_or_ge k 64 with g | g
    · exact q40_m q3_k3 h0 (by omega) (by omega) hpc
    rcases Nat.lt_or_ge k 80 with g | g
    · exact q40_m q3_k4 h0 (by omega) (by omega) hpc
    rcases Nat.lt_or_ge k 96 with g | g
    · exact q40_m q3_k5 h0 (by omega) (by omega) hpc
    rcases Nat.lt_or_ge k 112 with g | g
    · exact q40_m q3_k6 h0 (by omega) (by omega) hpc
    rcases Nat.lt_or_ge k 128 with g | g
    · exact q40_m q3_k7 h0 (by omega) (by omega) hpc
    rcases Nat.lt_or_ge k 144 with g | g
    · exact q40_m q3_k8 h0 (by omega) (by omega) hpc
    rcases Nat.lt_or_ge k 160 with g | g
    · exact q40_m q3_k9 h0 (by omega) (by omega) hpc
    rcases Nat.lt_or_ge k 176 with g | g
    · exact q40_m q3_k10 h0 (by omega) (by omega) hpc
    rcases Nat.lt_or_ge k 192 with g | g
    · exact q40_m q3_k11 h0 (by omega) (by omega) hpc
    rcases Nat.lt_or_ge k 208 with g | g
    · exact q40_m q3_k12 h0 (by omega) (by omega) hpc
    rcases Nat.lt_or_ge k 224 with g | g
    · exact q40_m q3_k13 h0 (by omega) (by omega) hpc
    rcases Nat.lt_or_ge k 240 with g | g
    · exact q40_m q3_k14 h0 (by omega) (by omega) hpc
    exact q40_m q3_k15 h0 (by omega) (by omega) hpc
/-! the law's runs -/
def q41_pw (j : Nat) : Int32 := match j with | 0 => 1 | 1 => 3 | 2 => 9 | 3 => 27 | 4 => 81 | 5 => 243 | 6 => 729 | _ => 2187
def q41_fc (j : Nat) : Int32 := match j with | 0 => 1 | 1 => 1 | 2 => 2 | 3 => 6 | 4 => 24 | 5 => 120 | 6 => 720 | _ => 5040
def q41_N (L : Nat) (xs : Nat → Int32) : q4_M := (3, fun k => if k = 0 then (0, L, fun j => .int (xs j)) else if k = 1 then (0, 8, fun j => .int (q41_pw j)) else (0, 8, fun j => .int (q41_fc j)))
def q41_s (xs : Nat → Int32) : Nat → Int32 := fun j => if j = 5 then xs 0 &&& 63 else xs j
theorem q41_R {L : Nat} (hL : L ≤ 5) (xs : Nat → Int32) : q21_R (q41_s xs) (q30_M L) (q41_N L xs) := by
  refine ⟨rfl, Nat.le_of_ble_eq_true rfl, fun k hk => ?_⟩
  have hk : k < 3 := hk
  match k, hk with
  | 0, _ =>
    have ht : q20_tget 8 (q30_M L).2 0 = ((0, L, q20_int 0, (List.range L).map (fun (j : Nat) => (j, ((1, (j : Int), 0) : q20_V)))) : q20_C) := rfl
    unfold q20_get
    rw [ht]
    refine ⟨rfl, rfl, fun j hj => ?_⟩
    have hj : j < L := hj
    show q20_g (q41_s xs) (q20_wget (q20_int 0) j ((List.range L).map (fun (j : Nat) => (j, ((1, (j : Int), 0) : q20_V))))) (.int (xs j))
    rw [q24_wm _ (fun (j : Nat) => ((1, (j : Int), 0) : q20_V)) j _ (List.mem_range.mpr hj)]
    show Value.int (xs j) = .int (q41_s xs ((j : Int)).toNat)
    have e : ((j : Int)).toNat = j := rfl
    rw [e]
    unfold q41_s
    rw [if_neg (by omega)]
  | 1, _ =>
    refine ⟨rfl, rfl, fun j hj => ?_⟩
    have hj : j < 8 := hj
    match j, hj with
    | 0, _ => exact ⟨_, rfl, by decide, by decide⟩
    | 1, _ => exact ⟨_, rfl, by decide, by decide⟩
    | 2, _ => exact ⟨_, rfl, by decide, by decide⟩
    | 3, _ => exact ⟨_, rfl, by decide, by decide⟩
    | 4, _ => exact ⟨_, rfl, by decide, by decide⟩
    | 5, _ => exact ⟨_, rfl, by decide, by decide⟩
    | 6, _ => exact ⟨_, rfl, by decide, by decide⟩
    | 7, _ => exact ⟨_, rfl, by decide, by decide⟩
  | 2, _ =>
    refine ⟨rfl, rfl, fun j hj => ?_⟩
    have hj : j < 8 := hj
    match j, hj with
    | 0, _ => exact ⟨_, rfl, by decide, by decide⟩
    | 1, _ => exact ⟨_, rfl, by decide, by decide⟩
    | 2, _ => exact ⟨_, rfl, by decide, by decide⟩
    | 3, _ => exact ⟨_, rfl, by decide, by decide⟩
    | 4, _ => exact ⟨_, rfl, by decide, by decide⟩
    | 5, _ => exact ⟨_, rfl, by decide, by decide⟩
    | 6, _ => exact ⟨_, rfl, by decide, by decide⟩
    | 7, _ => exact ⟨_, rfl, by decide, by decide⟩
theorem q41_use {L : Nat} {a b lo hi : Int} (h : q30_ok L a b lo hi = true) (hL : L ≤ 5) (xs : Nat → Int32) (h1 : a ≤ (xs 1).toInt ∧ (xs 1).toInt ≤ b) (h2 : lo ≤ (xs 0 &&& 63).toInt ∧ (xs 0 &&& 63).toInt ≤ hi) : ∃ N', q4_run 20000 0 0 [(0, .ref 0)] [] (q41_N L xs) 0 0 = some (some (.int 1), N') := by
  unfold q30_ok at h
  split at h
  · cases h
  · next outs hrun =>
    have hE : q20_ok (q41_s xs) (q30_E a b lo hi) := by
      intro i q hq
      match i, hq with
      | 0, hq => cases hq; exact q21_rng _
      | 1, hq => cases hq; exact h1
      | 2, hq => cases hq; exact q21_rng _
      | 3, hq => cases hq; exact q21_rng _
      | 4, hq => cases hq; exact q21_rng _
      | 5, hq => cases hq; exact h2
      | i + 6, hq => cases hq
    obtain ⟨o, ho, -, v, N', g2, g3, -⟩ := q26_run (ρ := q41_s xs) rfl 20000 0 0 _ _ _ _ _ _ _ hrun [(0, .ref 0)] [] (q41_N L xs) hE ⟨⟨rfl, rfl⟩, trivial⟩ trivial (q41_R hL xs)
    have h3 := List.all_eq_true.mp h o ho
    refine ⟨N', ?_⟩
    rw [g2]
    obtain ⟨E1, M1, w⟩ := o
    unfold q30_one at h3
    split at h3
    · next e1 e2 x y heq =>
      cases heq
      simp only [Bool.and_eq_true, decide_eq_true_eq] at h3
      obtain ⟨rfl, rfl⟩ := h3
      cases v with
      | none => cases g3
      | some z =>
        obtain ⟨u, rfl, u1, u2⟩ := g3
        have : u = 1 := Int32.toInt_inj.mp (by have : (1 : Int32).toInt = 1 := by decide
                                               omega)
        rw [this]
    · cases h3
theorem q41_all {L : Nat} (hL : L ≤ 5) (xs : Nat → Int32) : ∃ N', q4_run 20000 0 0 [(0, .ref 0)] [] (q41_N L xs) 0 0 = some (some (.int 1), N') := by
  have hr := q21_rng (xs 1)
  obtain ⟨j, hj, hx⟩ := pk_andE (xs 0) (m := 63) 6 (by decide)
  have hj : j < 64 := hj
  have hv : (xs 0 &&& 63).toInt = (j : Int) := by rw [hx]; exact nI_toInt (by omega)
  by_cases l0 : L = 0
  · subst l0
    exact q41_use q31_s0 hL xs hr (by omega)
  by_cases l1 : L = 1
  · subst l1
    exact q41_use q31_s1 hL xs hr (by omega)
  by_cases l2 : L = 2
  · subst l2
    exact q41_use q31_s2 hL xs hr (by omega)
  by_cases l3 : L = 3
  · subst l3
    exact q41_use q31_s3 hL xs hr (by omega)
  by_cases l4 : L = 4
  · subst l4
    exact q41_use q31_s4 hL xs hr (by omega)
  have l5 : L = 5 := by omega
  subst l5
  by_cases e0 : j = 0
  · exact q41_use q31_o0 hL xs hr (by omega)
  by_cases e1 : j = 1
  · exact q41_use q31_o1 hL xs hr (by omega)
  by_cases e2 : j = 2
  · exact q41_use q31_o2 hL xs hr (by omega)
  by_cases e3 : j = 3
  · exact q41_use q31_o3 hL xs hr (by omega)
  by_cases e4 : j = 4
  · exact q41_use q31_o4 hL xs hr (by omega)
  by_cases e5 : j = 5
  · exact q41_use q31_o5 hL xs hr (by omega)
  by_cases e6 : j = 6
  · exact q41_use q31_o6 hL xs hr (by omega)
  by_cases e7 : j = 7
  · exact q41_use q31_o7 hL xs hr (by omega)
  by_cases e8 : j = 8
  · exact q41_use q31_o8 hL xs hr (by omega)
  by_cases e9 : j = 9
  · exact q41_use q31_o9 hL xs hr (by omega)
  by_cases e10 : j = 10
  · exact q41_use q31_o10 hL xs hr (by omega)
  by_cases e11 : j = 11
  · exact q41_use q31_o11 hL xs hr (by omega)
  by_cases e12 : j = 12
  · exact q41_use q31_o12 hL xs hr (by omega)
  by_cases e13 : j = 13
  · exact q41_use q31_o13 hL xs hr (by omega)
  by_cases e14 : j = 14
  · exact q41_use q31_o14 hL xs hr (by omega)
  by_cases e15 : j = 15
  · exact q41_use q31_o15 hL xs hr (by omega)
  by_cases e16 : j = 16
  · exact q41_use q31_o16 hL xs hr (by omega)
  by_cases e17 : j = 17
  · exact q41_use q31_o17 hL xs hr (by omega)
  by_cases e18 : j = 18
  · exact q41_use q31_o18 hL xs hr (by omega)
  by_cases e19 : j = 19
  · exact q41_use q31_o19 hL xs hr (by omega)
  by_cases e20 : j = 20
  · exact q41_use q31_o20 hL xs hr (by omega)
  by_cases e21 : j = 21
  · exact q41_use q31_o21 hL xs hr (by omega)
  by_cases e22 : j = 22
  · exact q41_use q31_o22 hL xs hr (by omega)
  by_cases e23 : j = 23
  · exact q41_use q31_o23 hL xs hr (by omega)
  by_cases e24 : j = 24
  · exact q41_use q31_o24 hL xs hr (by omega)
  by_cases e25 : j = 25
  · exact q41_use q31_o25 hL xs hr (by omega)
  by_cases e26 : j = 26
  · exact q41_use q31_o26 hL xs hr (by omega)
  by_cases e27 : j = 27
  · exact q41_use q31_o27 hL xs hr (by omega)
  by_cases e28 : j = 28
  · exact q41_use q31_o28 hL xs hr (by omega)
  by_cases e29 : j = 29
  · exact q41_use q31_o29 hL xs hr (by omega)
  by_cases e30 : j = 30
  · exact q41_use q31_o30 hL xs hr (by omega)
  by_cases e31 : j = 31
  · exact q41_use q31_o31 hL xs hr (by omega)
  by_cases e32 : j = 32
  · exact q41_use q31_o32 hL xs hr (by omega)
  by_cases e33 : j = 33
  · exact q41_use q31_o33 hL xs hr (by omega)
  by_cases e34 : j = 34
  · exact q41_use q31_o34 hL xs hr (by omega)
  by_cases e35 : j = 35
  · exact q41_use q31_o35 hL xs hr (by omega)
  by_cases e36 : j = 36
  · exact q41_use q31_o36 hL xs hr (by omega)
  by_cases e37 : j = 37
  · exact q41_use q31_o37 hL xs hr (by omega)
  by_cases e38 : j = 38
  · exact q41_use q31_o38 hL xs hr (by omega)
  by_cases e39 : j = 39
  · exact q41_use q31_o39 hL xs hr (by omega)
  by_cases e40 : j = 40
  · exact q41_use q31_o40 hL xs hr (by omega)
  by_cases e41 : j = 41
  · exact q41_use q31_o41 hL xs hr (by omega)
  by_cases e42 : j = 42
  · exact q41_use q31_o42 hL xs hr (by omega)
  by_cases e43 : j = 43
  · exact q41_use q31_o43 hL xs hr (by omega)
  by_cases e44 : j = 44
  · exact q41_use q31_o44 hL xs hr (by omega)
  by_cases e45 : j = 45
  · exact q41_use q31_o45 hL xs hr (by omega)
  by_cases e46 : j = 46
  · exact q41_use q31_o46 hL xs hr (by omega)
  by_cases e47 : j = 47
  · exact q41_use q31_o47 hL xs hr (by omega)
  by_cases e48 : j = 48
  · exact q41_use q31_o48 hL xs hr (by omega)
  by_cases e49 : j = 49
  · exact q41_use q31_o49 hL xs hr (by omega)
  by_cases e50 : j = 50
  · exact q41_use q31_o50 hL xs hr (by omega)
  by_cases e51 : j = 51
  · exact q41_use q31_o51 hL xs hr (by omega)
  by_cases e52 : j = 52
  · by_cases n0 : (xs 1).toInt ≤ 0
    · exact q41_use q31_n0 hL xs (by omega) (by omega)
    by_cases n1 : (xs 1).toInt = 1
    · exact q41_use q31_n1 hL xs (by omega) (by omega)
    by_cases n2 : (xs 1).toInt = 2
    · exact q41_use q31_n2 hL xs (by omega) (by omega)
    by_cases n3 : (xs 1).toInt = 3
    · exact q41_use q31_n3 hL xs (by omega) (by omega)
    by_cases n4 : (xs 1).toInt = 4
    · exact q41_use q31_n4 hL xs (by omega) (by omega)
    by_cases n5 : (xs 1).toInt = 5
    · exact q41_use q31_n5 hL xs (by omega) (by omega)
    by_cases n6 : (xs 1).toInt = 6
    · exact q41_use q31_n6 hL xs (by omega) (by omega)
    by_cases n7 : (xs 1).toInt = 7
    · exact q41_use q31_n7 hL xs (by omega) (by omega)
    by_cases n8 : (xs 1).toInt = 8
    · exact q41_use q31_n8 hL xs (by omega) (by omega)
    by_cases n9 : (xs 1).toInt = 9
    · exact q41_use q31_n9 hL xs (by omega) (by omega)
    by_cases n10 : (xs 1).toInt = 10
    · exact q41_use q31_n10 hL xs (by omega) (by omega)
    by_cases n11 : (xs 1).toInt = 11
    · exact q41_use q31_n11 hL xs (by omega) (by omega)
    by_cases n12 : (xs 1).toInt = 12
    · exact q41_use q31_n12 hL xs (by omega) (by omega)
    by_cases n13 : (xs 1).toInt = 13
    · exact q41_use q31_n13 hL xs (by omega) (by omega)
    by_cases n14 : (xs 1).toInt = 14
    · exact q41_use q31_n14 hL xs (by omega) (by omega)
    by_cases n15 : (xs 1).toInt = 15
    · exact q41_use q31_n15 hL xs (by omega) (by omega)
    by_cases n16 : (xs 1).toInt = 16
    · exact q41_use q31_n16 hL xs (by omega) (by omega)
    by_cases n17 : (xs 1).toInt = 17
    · exact q41_use q31_n17 hL xs (by omega) (by omega)
    by_cases n18 : (xs 1).toInt = 18
    · exact q41_use q31_n18 hL xs (by omega) (by omega)
    by_cases n19 : (xs 1).toInt = 19
    · exact q41_use q31_n19 hL xs (by omega) (by omega)
    by_cases n20 : (xs 1).toInt = 20
    · exact q41_use q31_n20 hL xs (by omega) (by omega)
    exact q41_use q31_n21 hL xs (by omega) (by omega)
  by_cases e53 : j = 53
  · exact q41_use q31_o53 hL xs hr (by omega)
  by_cases e54 : j = 54
  · exact q41_use q31_o54 hL xs hr (by omega)
  by_cases e55 : j = 55
  · exact q41_use q31_o55 hL xs hr (by omega)
  exact q41_use q31_o56 hL xs hr (by omega)
/-! THE CLAIM OUT OF ONE WALK OF THE LAW'S BODY. Your part is whole_start (and what it stands on); all else here is the same for every law, but numbers. -/
def R_law : String := "BuriedBySevensLaw"
def lw_P (b : Addr) (xs : List Int32) (args : Array Value) (s : State) : Prop := args = #[.ref b] ∧ s.IntsAt b xs ∧ xs.length ≤ 5 ∧ (Jvm.Cond.and given_1 narrow_1).before args s = true
def lw_Q (_ : Array Value) (s : State) (o : Outcome) (t : State) : Prop := o = .returned (some (.int 1)) ∧ Framed s o t [] 600000 7302250
def lw_Z (below : List Frame) (a : Array Value) (s : State) : State → Prop := fun t => ∃ o, t.status = .running ∧ Ended t below o ∧ lw_Q a s o t
/-- the law's own end, with 1 on the stack, nothing written that was there before, its room as the claim has it -/
theorem lw_ret {p : Program} {l : Launch} {e : Env} {s : State} {m : MethodId} {below : List Frame} {meth : Method} {c : Code} {b : Nat} (hx : p.tables.exec = Jvm.exec) (hb : c.code = code) (hr : meth.sig.returnType = ret) (hlocks : meth.locks = false) {pc : Nat} {H : Heap} {ls : Array Slot} (hdg : decode code pc = .ok (.ireturn, 1)) : W p l e room_1 s m #[Value.ref b] below meth c H [] 600000 7302250 (lw_Z below #[Value.ref b] s) (F0 m pc ls [.int 1]) := by
  intro T hT X
  obtain ⟨fs, hret, hrun, hended, hW, hframe⟩ := X.leave (v := some (.int 1)) (hlocks := hlocks) (fun h => by rw [hr] at h; cases h)
  have hmeth' : T.vm.method? m = some meth := X.method'
  refine ⟨T.setFrames fs, ?_, .returned (some (.int 1)), hrun, hended, rfl, ⟨_, rfl⟩, hW, hframe⟩
  jvm_step X.here [X.here.top, hx, hb, hdg, hmeth', hr, ret, narrow_b1]
  (try refine ⟨rfl, ?_⟩); (try refine ⟨rfl, ?_⟩)
  first | (intro acts; rw [hret _ acts rfl rfl rfl]) | rw [hret _ _ rfl rfl rfl]
  exact Steps.refl _
/-- what holds at the law's entry: the machine, the code, the tables' words (any of lw_tbl by 'hts w (by decide +kernel)'), the script of L ints xs at the cell b, what the Statement gives of the start (any of its parts by flat_of_before) -/
def lw_At (p : Program) (s : State) (m : MethodId) (meth : Method) (c : Code) (b L : Nat) (xs : Nat → Int32) : Prop :=
  p.tables.exec = Jvm.exec ∧ c.code = code ∧ meth.sig.returnType = ret ∧ c.maxLocals = 4 ∧ s.vm.findClass R_law = some m.cls ∧ (∀ w ∈ lw_tbl, w.before #[Value.ref b] s = true) ∧ va_X b L xs s s.heap ∧ b < s.heap.size ∧ meth.locks = false ∧ (Jvm.Cond.and given_1 narrow_1).before #[Value.ref b] s = true
set_option maxHeartbeats 4000000 in
set_option maxRecDepth 100000 in
theorem whole_start {p : Program} {e : Env} {s : State} {m : MethodId} {below : List Frame} {meth : Method} {c : Code} (l : Launch) (hflags : l.flags = flags0) {b L : Nat} {xs : Nat → Int32} (hL : L ≤ 5) (C0 : lw_At p s m meth c b L xs) : W p l e room_1 s m #[Value.ref b] below meth c s.heap [] 0 0 (lw_Z below #[Value.ref b] s) (entryFrame m ([Value.ref b] : List Value).toArray 4) := by
  obtain ⟨hx, hb, hr, hml, hown, hts, hX, hbl, hlocks, hgv⟩ := C0
  have hA : ∀ a : Nat, a < s.heap.size → ¬ (fun q : Nat => s.heap.size ≤ q) a := fun a h => Nat.not_le.mpr h
  -- classes
  have hKn : ∀ k : Nat, ∃ q : ClassId × (Nat → Nat), k < 8 → u_Kn s (q2_cn k) (q2_T k) (q2_N k) q.1 q.2 := by
    intro k
    by_cases hk : k < 8
    · obtain ⟨cC, iS, h⟩ := u_known (C := q2_cn k) (T := q2_T k) (N := q2_N k) hts (fun w hw => by
        obtain ⟨z, hz, rfl⟩ := List.mem_map.mp hw
        exact (q7_lay hk (List.mem_range.mp hz)).1) (hts _ (q8_cw hk).1)
      exact ⟨(cC, iS), fun _ => h⟩
    · exact ⟨(0, fun _ => 0), fun h => absurd h hk⟩
  obtain ⟨D, hD⟩ : ∃ D : va_G, ∀ k, k < 8 → u_Kn s (q2_cn k) (q2_T k) (q2_N k) (D.1 k) (D.2 k) := ⟨(fun k => (Classical.choose (hKn k)).1, fun k => (Classical.choose (hKn k)).2), fun k hk => Classical.choose_spec (hKn k) hk⟩
  have hcx : q5_cx D s := ⟨fun w hw hk => q5_move (hts w hw) hk (State.WarmedH.refl s), hD, q5_ao_of (hts _ q8_ow.2.2.2.2.2.2.1)⟩
  -- statics
  have hs := flat_of_before _ hgv
  have hini : (Cond.initialized "BuriedBySevens").before #[Value.ref b] s = true := hts _ (q8_cw (c := 6) (by decide)).2
  obtain ⟨a1, ha1, hT1⟩ := va_Tof (args := #[Value.ref b]) (s := s) (tm := .static "BuriedBySevens" "POWERS" "[I") (ty := .int) (N := 8) (f := fun j => .int (q41_pw j)) (A := fun q : Nat => s.heap.size ≤ q) (by decide) (hs _ (by decide +kernel)) (va_eqt (hs _ (by decide +kernel))) (fun j hj => by
    match j, hj with
    | 0, _ => exact va_eqt (hs _ (by decide +kernel))
    | 1, _ => exact va_eqt (hs _ (by decide +kernel))
    | 2, _ => exact va_eqt (hs _ (by decide +kernel))
    | 3, _ => exact va_eqt (hs _ (by decide +kernel))
    | 4, _ => exact va_eqt (hs _ (by decide +kernel))
    | 5, _ => exact va_eqt (hs _ (by decide +kernel))
    | 6, _ => exact va_eqt (hs _ (by decide +kernel))
    | 7, _ => exact va_eqt (hs _ (by decide +kernel))
    ) hA
  obtain ⟨a2, ha2, hT2⟩ := va_Tof (args := #[Value.ref b]) (s := s) (tm := .static "BuriedBySevens" "FACTORIALS" "[I") (ty := .int) (N := 8) (f := fun j => .int (q41_fc j)) (A := fun q : Nat => s.heap.size ≤ q) (by decide) (hs _ (by decide +kernel)) (va_eqt (hs _ (by decide +kernel))) (fun j hj => by
    match j, hj with
    | 0, _ => exact va_eqt (hs _ (by decide +kernel))
    | 1, _ => exact va_eqt (hs _ (by decide +kernel))
    | 2, _ => exact va_eqt (hs _ (by decide +kernel))
    | 3, _ => exact va_eqt (hs _ (by decide +kernel))
    | 4, _ => exact va_eqt (hs _ (by decide +kernel))
    | 5, _ => exact va_eqt (hs _ (by decide +kernel))
    | 6, _ => exact va_eqt (hs _ (by decide +kernel))
    | 7, _ => exact va_eqt (hs _ (by decide +kernel))
    ) hA
  have hZ1 := va_Zof (hts _ q8_ow.2.2.2.2.2.2.2.1) hini ha1 hA
  have hZ2 := va_Zof (hts _ q8_ow.2.2.2.2.2.2.2.2) hini ha2 hA
  obtain ⟨c1, t11, t12, t13, t14, t15, t16, t17⟩ := hT1
  obtain ⟨c2, t21, t22, t23, t24, t25, t26, t27⟩ := hT2
  obtain ⟨scr, x1, x2, x3, x4, x5⟩ := hX
  obtain ⟨ro, hro⟩ : ∃ ro : Nat → Nat, ro = fun k => if k = 0 then b else if k = 1 then a1 else a2 := ⟨_, rfl⟩
  have r0 : ro 0 = b := by rw [hro]; rfl
  have r1 : ro 1 = a1 := by rw [hro]; rfl
  have r2 : ro 2 = a2 := by rw [hro]; rfl
  have hrep : q5_rep D ro s.heap.size s (q41_N L xs) s.heap := by
    refine ⟨Nat.le_refl 3, rfl, fun k hk => ?_, fun k hk => ?_, by rw [r1]; exact hZ1, by rw [r2]; exact hZ2⟩
    · have hk : k < 3 := hk
      match k, hk with
      | 0, _ => exact Or.inl ⟨rfl, fun j _ => ⟨_, rfl⟩, Or.inl ⟨by decide, scr, by rw [r0]; exact x1, x2, x3, ⟨Nat.le_of_eq x4.symm, by rw [x4]; rfl⟩, x5⟩⟩
      | 1, _ => exact Or.inl ⟨rfl, fun j _ => ⟨_, rfl⟩, Or.inl ⟨by decide, c1, by rw [r1]; exact t11, t12, t13, ⟨t14, t15⟩, t16⟩⟩
      | 2, _ => exact Or.inl ⟨rfl, fun j _ => ⟨_, rfl⟩, Or.inl ⟨by decide, c2, by rw [r2]; exact t21, t22, t23, ⟨t24, t25⟩, t26⟩⟩
    · match k, hk with
      | 0, _ => rw [r0]; exact hbl
      | 1, _ => rw [r1]; exact (Array.getElem?_eq_some_iff.mp t11).1
      | 2, _ => rw [r2]; exact (Array.getElem?_eq_some_iff.mp t21).1
  have hF : q6_F p room_1 s m meth c D 0 := ⟨hx, hb, hml, hown, fun h => absurd h (by decide), hcx, rfl, rfl, rfl, rfl⟩
  have hl := lv_entry ([.ref b]) (n := 4) (Nat.le_of_ble_eq_true rfl)
  have had : q5_ad ro s.heap.size 0 = b := (q5_old (by decide)).trans r0
  have hl : lv_has ((lg_sl ([Value.ref b]) ++ List.replicate (4 - (lg_sl ([Value.ref b])).length) Slot.unset).toArray) (q2_ml 0) (q5_tl (q5_ad ro s.heap.size) [(0, .ref 0)]) := by
    show lv_has _ 4 [(0, Value.ref (q5_ad ro s.heap.size 0))]
    rw [had]
    exact hl
  obtain ⟨N', hrun⟩ := q41_all hL xs
  rw [lg_entry_eq]
  refine q12_sound q40_ck l D ro s.heap.size 20000 0 0 [(0, .ref 0)] [] (q41_N L xs) 0 0 (some (.int 1)) N' hrun s.heap [] _ hF hl hrep (fun _ h => by cases h) (Nat.zero_le _) (Nat.zero_le _) (fun pc H locs ls st ce sl hend hr2 hlo z1 z2 => ?_)
  rcases hend with ⟨x, t, hv, rfl, hdd, -⟩ | ⟨x, hv, -⟩ | ⟨a, n, hv, -⟩ | ⟨hv, -⟩
  · cases hv
    refine va_forget hlo ?_
    refine W.widen (k := 600000) (n := 7302250) z1 z2 ?_
    exact lw_ret hx hb hr hlocks hdd
  · cases hv
  · cases hv
  · cases hv
-- ===== YOUR PART ENDS =====
set_option maxHeartbeats 4000000 in
theorem lw_walk (l : Launch) (hflags : l.flags = flags0) (b : Addr) (xs : List Int32) : MetFree l x (headSpec (Jvm.Cond.code x code maxLocals ret :: tables_1) room_1) (lw_P b xs) (fun _ _ _ _ _ => True) lw_Q := by
  refine MetFree.of_bodyS (code := code) (maxLocals := maxLocals) (ret := ret) (by decide) ?_ ?_
  · intro args s m h hn
    obtain ⟨meth, c, h1, h2, h3, h4, h5, h6, -, -⟩ := Cond.code_spec hn (atoms_spec (ws := Jvm.Cond.code x code maxLocals ret :: tables_1) h _ List.mem_cons_self)
    exact ⟨meth, c, h1, h2, h3, h4, h5, h6⟩
  · intro p e s m args below meth c s₁ B hml0 hP _
    obtain ⟨rfl, hx, hbd, hgv⟩ := hP
    obtain ⟨scr, harrAt, hlist, hof, hsmall⟩ := hx
    obtain ⟨hcb, hkn, -, -⟩ := State.arrayAt?_spec harrAt
    have hown : s.vm.findClass R_law = some m.cls := findClass_of_methodNamed B.named
    have hts0 : ∀ c ∈ (Jvm.Cond.code x code maxLocals ret :: tables_1), c.before #[Value.ref b] s = true := atoms_spec (ws := Jvm.Cond.code x code maxLocals ret :: tables_1) B.pre
    have hts : ∀ w ∈ lw_tbl, w.before #[Value.ref b] s = true := k2_hts_sels lw_privs (fun w hw => hts0 w (List.mem_cons_of_mem _ hw)) lw_privs_ok
    have hml : c.maxLocals = 4 := B.maxLocals_eq (hts0 _ List.mem_cons_self)
    have X₀ : Stand p l e room_1 s m #[Value.ref b] below meth c s₁ [] 0 0 := Stand.of_body B
    have hh0 : s₁.heap = s.heap := by rw [B.state]; rfl
    have hsz : scr.slots.size = xs.length := by rw [← Array.length_toList, hlist, List.length_map]
    have hval : ∀ j : Nat, j < xs.length → scr.slots[j]? = some (.int (xs.getD j 0)) := fun j hj => by
      rw [← Array.getElem?_toList, hlist]
      simp [hj]
    have hbl : b < s.heap.size := (Array.getElem?_eq_some_iff.mp hcb).1
    have hX : va_X b xs.length (fun j => xs.getD j 0) s s.heap := ⟨scr, hcb, hof, hkn, hsz, hval⟩
    have K : W p l e room_1 s m #[Value.ref b] below meth c s₁.heap [] 0 0 (lw_Z below #[Value.ref b] s) (entryFrame m ([Value.ref b] : List Value).toArray 4) := by
      rw [hh0]
      exact whole_start l hflags hbd ⟨B.exec, B.bytes, B.returns, hml, hown, hts, hX, hbl, B.notSynchronized, hgv⟩
    obtain ⟨t, a1, o, b1, b2, b3⟩ := K s₁ rfl X₀
    exact ⟨t, o, a1, b1, b2, b3⟩
theorem lw_pre_spec {args : Array Value} {s : State} (h : (Jvm.Cond.and given_1 narrow_1).before args s = true) (hr : rest_1_c.before args s = true) : ∃ (b : Addr) (xs : List Int32), lw_P b xs args s := by
  have hs := flat_of_before _ h
  have hq := flat_of_before _ hr
  have hc : (Cond.count 1).before args s = true := hs _ (by decide +kernel)
  have harr : (Cond.arrayOf (.arg 0) .int).before args s = true := hs _ (by decide +kernel)
  have hle : (Cond.le (.length (.arg 0)) (.int 5)).before args s = true := hs _ (by decide +kernel)
  have hlen : (Cond.isInt (.length (.arg 0))).before args s = true := hq _ (by decide +kernel)
  have hall : (Cond.all (.arg 0) (.isInt (.elem (.arg 0) (.index 0)))).before args s = true := hq _ (by decide +kernel)
  obtain ⟨b, xs, hb, hx⟩ := State.ints_of_pre rfl harr hlen hall
  have hsm : xs.length < 2 ^ 31 := hx.choose_spec.2.2.2
  have hev : (Term.length (.arg 0)).eval args s none [] s = some (.int xs.length.toInt32) := hx.length_eval hb
  have hv := Cond.le_ints hev (show (Term.int 5).eval args s none [] s = some (.int 5) from rfl)
  have hd : xs.length.toInt32 ≤ 5 := by
    simpa [Cond.before, Cond.holds, hv] using hle
  have hN : xs.length ≤ 5 := (Int32.ofNat_le_ofNat hsm (by decide)).mp (show Int32.ofNat xs.length ≤ Int32.ofNat 5 from hd)
  exact ⟨b, xs, Cond.one_arg hc (show args[0]? = some (.ref b) from hb), hx, hN, h⟩
theorem lw_comes (l : Launch) (hflags : l.flags = flags0) : Comes l x (Jvm.Cond.code x code maxLocals ret :: tables_1) room_1 (fun tb e args s => Calls_1 tb e args s ∧ rest_1 tb e args s ∧ Pre_1 tb e args s)
    (fun _ _ args s o t => lw_Q args s o t) := by
  intro p e ha hc hk s m args below hf hfit hheap happ hpre
  obtain ⟨b, xs, hP⟩ := lw_pre_spec hpre.2.2 hpre.2.1
  obtain ⟨k, o, h1, h2, h3, hQ⟩ := lw_walk l hflags b xs p e ha hc hk s m args below hf ((Spec.applies_iff_loose hf).mp happ).1 hP trivial
  exact ⟨k, o, h1, h2, h3, hQ⟩
theorem lw_frame {s t : State} {o : Outcome} {args : Array Value} (h : Framed s o t [] 600000 7302250) :
    Framed s o t (fieldLocs frame_1_writes args s ++ arrayLocs frame_1_arrays args s ++ staticLocs frame_1_statics s) 600000 7302250 := h
theorem lw_limb (L : Cond) (hL : ∀ (args : Array Value) (s t : State), L.after args s (.returned (some (.int 1))) t = true) :
    ArmFor flags0 classFile x code maxLocals ret World_1 tables_1 room_1 Calls_1 rest_1 Pre_1
      (fun tb e a s o t => postC L tb e a s o t ∧ Framed s o t (fieldLocs frame_1_writes a s ++ arrayLocs frame_1_arrays a s ++ staticLocs frame_1_statics s) 600000 7302250) := by
  intro l hflags _ _ p e ha hc hk s m args below hf hfit hheap happ hpre
  obtain ⟨k, o, h1, h2, h3, rfl, hF⟩ := lw_comes l hflags p e ha hc hk s m args below hf hfit hheap happ hpre
  exact ⟨k, _, h1, h2, h3, hL args s _, lw_frame hF⟩
theorem i_vc : Claimed_1_1 ∧ Claimed_1_2 := ⟨lw_limb limb_1_1 (fun args s t => by simp [limb_1_1, Cond.after, Cond.holds, Cond.value]), lw_limb limb_1_2 (fun args s t => Cond.after_iff.mpr (by
  first | (rw [show limb_1_2 = Cond.eq .result (.int 1) from rfl, Cond.eq_ints (x := 1) (y := 1) rfl rfl]; simp; done) | (simp [limb_1_2, Cond.value, Term.eval]; done)))⟩
