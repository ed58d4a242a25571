/-! the constructors: the object graph, held against what its places may hold -/
theorem q81_run {x : q4_C} : ∀ (f k pc : Nat) (lv : List (Nat × Value)) (st : List Value) (N : q4_M) (ce sl : Nat) (v : Option Value) (N' : q4_M), q81_ok N → q4_run f k pc lv st N ce sl = some (v, N') → q4_run f k pc lv st (q81_sw N x) ce sl = some (v, q81_sw N' x) ∧ q81_ok N' := by
  intro f
  induction f with
  | zero => intro k pc lv st N ce sl v N' _ h; cases h
  | succ f ih =>
    intro k pc lv st N ce sl v N' h0 h
    unfold q4_run at h ⊢
    split at h
    · cases h
    · next i len hcd =>
      try rw [hcd]
      try dsimp only
      split at h
      · cases h
      · next pc' lv' st' M' ce' sl' hst =>
        obtain ⟨h1, h2⟩ := q81_step (x := x) h0 hst
        rw [h1]
        exact ih _ _ _ _ _ _ _ _ _ h2 h
      · next y as rest hst =>
        obtain ⟨h1, -⟩ := q81_step (x := x) h0 hst
        rw [h1]
        show (match q4_run f y 0 (lv_args 0 as) [] (q81_sw N x) 0 0 with
          | none => none
          | some (v, M') => q4_run f k (pc + 3) lv (v.toList ++ rest) M' (ce + q2_mc y) (sl + q2_ms y)) = some (v, q81_sw N' x) ∧ _
        split at h
        · cases h
        · next v1 M1 hc =>
          obtain ⟨h3, h4⟩ := ih _ _ _ _ _ _ _ _ _ h0 hc
          rw [h3]
          exact ih _ _ _ _ _ _ _ _ _ h4 h
      · next v1 hst =>
        obtain ⟨h1, -⟩ := q81_step (x := x) h0 hst
        rw [h1]
        cases h
        exact ⟨rfl, h0⟩
def q82_M0 : q20_M := (3, q20_tput 8 (q20_tput 8 (q20_tput 8 (q20_tall (99, 0, q20_int 0, []) 8) 0 (99, 0, q20_int 0, [])) 1 (0, 8, q20_int 0, [(0, q20_int 1), (1, q20_int 3), (2, q20_int 9), (3, q20_int 27), (4, q20_int 81), (5, q20_int 243), (6, q20_int 729), (7, q20_int 2187)])) 2 (0, 8, q20_int 0, [(0, q20_int 1), (1, q20_int 1), (2, q20_int 2), (3, q20_int 6), (4, q20_int 24), (5, q20_int 120), (6, q20_int 720), (7, q20_int 5040)]))
def q82_obj (c : Nat) : q20_C := (c + 2, q2_N c, (7, 0, 0), (List.range (q2_N c)).map (fun j => (j, q20_dv (defaultValue (q2_ty c j)))))
noncomputable def q82_run (k a : Nat) (M : q20_M) : Option (List (q20_E × q20_M × Option q20_V)) := q20_run 20000 k 0 [(0, (6, (a : Int), 0))] [] M 0 0 []
def q82_le (v : q20_V) (g : q50_V) : Bool := match v, g with
  | (0, lo, hi), (0, l, h) => decide (l ≤ lo) && decide (hi ≤ h)
  | (6, k, _), (6, l, h) => decide (l ≤ (k.toNat : Int)) && decide ((k.toNat : Int) ≤ h)
  | (0, _, _), (8, _, _) => true
  | (6, _, _), (8, _, _) => true
  | (7, _, _), (8, _, _) => true
  | _, _ => false
theorem q82_leS {ρ : Nat → Int32} {v : q20_V} {g : q50_V} {x : Value} (h : q82_le v g = true) (hg : q20_g ρ v x) : q52_g [] g x := by
  unfold q82_le at h
  split at h
  · next lo hi l hh =>
    obtain ⟨z, rfl, z1, z2⟩ := hg
    simp only [Bool.and_eq_true, decide_eq_true_eq] at h
    exact q73_gi (by omega) (by omega)
  · next k _ l hh =>
    have hg : x = .ref k.toNat := hg
    simp only [Bool.and_eq_true, decide_eq_true_eq] at h
    exact Or.inr (Or.inr (Or.inl ⟨rfl, k.toNat, hg, h.1, h.2⟩))
  · obtain ⟨z, rfl, -, -⟩ := hg
    exact Or.inr (Or.inr (Or.inr ⟨rfl, rfl⟩))
  · next k _ _ _ =>
    have hg : x = .ref k.toNat := hg
    subst hg
    exact Or.inr (Or.inr (Or.inr ⟨rfl, rfl⟩))
  · have hg : x = .null := hg
    subst hg
    exact Or.inr (Or.inr (Or.inr ⟨rfl, rfl⟩))
  · cases h
def q82_cell (M : q20_M) (a : Nat) : Bool := match q20_tget 8 M.2 a with
  | (kd, n, d, l) => Nat.beq kd (q51_kind a) && Nat.beq n (q51_len a) && (bif q51_uni a then q82_le d (q51_G a 0) && l.all (fun q => q82_le q.2 (q51_G a 0)) else (List.range n).all (fun j => q82_le (q20_wget d j l) (q51_G a j)))
theorem q82_wg {d : q20_V} {g : q50_V} {j : Nat} : ∀ {l : List (Nat × q20_V)}, q82_le d g = true → l.all (fun q => q82_le q.2 g) = true → q82_le (q20_wget d j l) g = true
  | [], h, _ => h
  | q :: l, h, h2 => by
    simp only [List.all_cons, Bool.and_eq_true] at h2
    unfold q20_wget
    cases hb : Nat.beq q.1 j with
    | true => rw [cond_true]; exact h2.1
    | false => rw [cond_false]; exact q82_wg h h2.2
theorem q82_cellS {ρ : Nat → Int32} {M : q20_M} {N : q4_M} (hR : q21_R ρ M N) {a : Nat} (ha : a < M.1) (h : q82_cell M a = true) : (N.2 a).1 = q51_kind a ∧ (N.2 a).2.1 = q51_len a ∧ ∀ j, j < q51_len a → q52_g [] (q51_G a j) ((N.2 a).2.2 j) := by
  obtain ⟨r1, r2, r3⟩ := hR.2.2 a ha
  unfold q82_cell at h
  generalize hq : q20_tget 8 M.2 a = q at h r1 r2 r3
  obtain ⟨kd, n, d, l⟩ := q
  simp only [Bool.and_eq_true] at h
  have e1 : kd = q51_kind a := Nat.eq_of_beq_eq_true h.1.1
  have e2 : n = q51_len a := Nat.eq_of_beq_eq_true h.1.2
  refine ⟨r1.trans e1, r2.trans e2, fun j hj => ?_⟩
  have h4 := r3 j (by rw [← e2] at hj; exact hj)
  have h5 : q20_get M a j = q20_wget d j l := by
    unfold q20_get
    rw [hq]
  rw [h5] at h4
  have h6 := h.2
  cases hu : q51_uni a with
  | true =>
    rw [hu, cond_true, Bool.and_eq_true] at h6
    rw [q57_uni hu]
    exact q82_leS (q82_wg h6.1 h6.2) h4
  | false =>
    rw [hu, cond_false] at h6
    exact q82_leS (List.all_eq_true.mp h6 j (List.mem_range.mpr (by omega))) h4
def q82_z (M : q20_M) (a j : Nat) : Bool := match q20_get M a j with
  | (0, x, y) => decide (x = 0) && decide (y = 0)
  | _ => false
theorem q82_zS {ρ : Nat → Int32} {M : q20_M} {N : q4_M} (hR : q21_R ρ M N) {a j : Nat} (ha : a < M.1) (hj : j < (q20_tget 8 M.2 a).2.1) (h : q82_z M a j = true) : (N.2 a).2.2 j = .int 0 := by
  have h4 := (hR.2.2 a ha).2.2 j hj
  unfold q82_z at h
  split at h
  · next x y hx =>
    rw [hx] at h4
    simp only [Bool.and_eq_true, decide_eq_true_eq] at h
    obtain ⟨z, hz, z1, z2⟩ := h4
    rw [hz]
    have : z = 0 := Int32.toInt_inj.mp (by
      have : (0 : Int32).toInt = 0 := by decide
      omega)
    rw [this]
  · cases h
/-- places that are 0 at first -/
def q82_zz : List (Nat × Nat) := [(5, 7), (6, 7), (7, 7), (9, 4), (10, 4), (11, 4), (12, 4), (13, 4), (14, 4), (15, 4), (24, 6), (25, 6), (26, 6), (28, 7), (29, 7), (30, 7), (32, 4), (33, 4), (34, 4), (35, 4), (36, 4), (37, 4), (38, 4), (47, 6), (48, 6), (49, 6), (84, 96), (92, 12), (93, 7), (100, 7), (101, 7), (102, 28), (103, 7), (104, 6), (105, 6), (106, 6), (107, 7), (113, 96), (118, 69), (122, 12)]
def q82_zs : List (Nat × Nat) := [(3, 16), (99, 35), (83, 0), (99, 17), (4, 0), (4, 1), (27, 0), (27, 1), (3, 17), (99, 0), (99, 5), (99, 26), (85, 0), (99, 32)] ++ q82_zz.flatMap (fun p => (List.range p.2).map (fun j => (p.1, j)))
noncomputable def q82_fin (M : q20_M) : Bool := Nat.beq M.1 124 && (List.range 124).all (fun a => Nat.beq a 0 || q82_cell M a) && q82_zs.all (fun q => q82_z M q.1 q.2) && (List.range 8).all (fun j => q82_z M 87 j)
noncomputable def q82_ok : Bool := match q82_run 1 3 (q20_new q82_M0 (q82_obj 6)) with
  | some [(_, M1, none)] => Nat.beq M1.1 99 && (match q82_run 150 99 (q20_new M1 (q82_obj 7)) with
    | some [(_, M2, none)] => q82_fin M2
    | _ => false)
  | _ => false
theorem q82_k : q82_ok = true := by decide +kernel
theorem q82_isv : (List.range 8).all (fun c => (List.range (q2_N c)).all (fun j => q20_isv (defaultValue (q2_ty c j)))) = true := by decide +kernel
theorem q82_objR {ρ : Nat → Int32} {M : q20_M} {N : q4_M} {c : Nat} (hc : c < 8) (h : q21_R ρ M N) (hM : M.1 < 256) : q21_R ρ (q20_new M (q82_obj c)) (q4_new N (c + 2, q2_N c, fun j => defaultValue (q2_ty c j))) := by
  refine h.new hM rfl rfl (fun j hj => ?_)
  have hj : j < q2_N c := hj
  show q20_g ρ (q20_wget (7, 0, 0) j ((List.range (q2_N c)).map (fun j => (j, q20_dv (defaultValue (q2_ty c j)))))) (defaultValue (q2_ty c j))
  rw [q24_wm _ (fun j => q20_dv (defaultValue (q2_ty c j))) j _ (List.mem_range.mpr hj)]
  have h1 := List.all_eq_true.mp (List.all_eq_true.mp q82_isv c (List.mem_range.mpr hc)) j (List.mem_range.mpr hj)
  unfold q20_isv at h1
  unfold q20_dv
  split at h1
  · next a ha => exact q21_a ha
  · cases h1
def q82_pw (j : Nat) : Int32 := match j with | 0 => 1 | 1 => 3 | 2 => 9 | 3 => 27 | 4 => 81 | 5 => 243 | 6 => 729 | _ => 2187
def q82_fc (j : Nat) : Int32 := match j with | 0 => 1 | 1 => 1 | 2 => 2 | 3 => 6 | 4 => 24 | 5 => 120 | 6 => 720 | _ => 5040
def q82_N0 (x : q4_C) : q4_M := (3, fun k => if k = 0 then x else if k = 1 then (0, 8, fun j => .int (q82_pw j)) else (0, 8, fun j => .int (q82_fc j)))
def q82_x0 : q4_C := (99, 0, fun _ => .null)
theorem q82_R0 : q21_R (fun _ => 0) q82_M0 (q82_N0 q82_x0) := by
  refine ⟨rfl, Nat.le_of_ble_eq_true rfl, fun k hk => ?_⟩
  have hk : k < 3 := hk
  match k, hk with
  | 0, _ => exact ⟨rfl, rfl, fun j hj => absurd hj (Nat.not_lt_zero _)⟩
  | 1, _ =>
    refine ⟨rfl, rfl, fun j hj => ?_⟩
    have hj : j < 8 := hj
    match j, hj with
    | 0, _ => exact ⟨_, rfl, by decide, by decide⟩
    | 1, _ => exact ⟨_, rfl, by decide, by decide⟩
    | 2, _ => exact ⟨_, rfl, by decide, by decide⟩
    | 3, _ => exact ⟨_, rfl, by decide, by decide⟩
    | 4, _ => exact ⟨_, rfl, by decide, by decide⟩
    | 5, _ => exact ⟨_, rfl, by decide, by decide⟩
    | 6, _ => exact ⟨_, rfl, by decide, by decide⟩
    | 7, _ => exact ⟨_, rfl, by decide, by decide⟩
  | 2, _ =>
    refine ⟨rfl, rfl, fun j hj => ?_⟩
    have hj : j < 8 := hj
    match j, hj with
    | 0, _ => exact ⟨_, rfl, by decide, by decide⟩
    | 1, _ => exact ⟨_, rfl, by decide, by decide⟩
    | 2, _ => exact ⟨_, rfl, by decide, by decide⟩
    | 3, _ => exact ⟨_, rfl, by decide, by decide⟩
    | 4, _ => exact ⟨_, rfl, by decide, by decide⟩
    | 5, _ => exact ⟨_, rfl, by decide, by decide⟩
    | 6, _ => exact ⟨_, rfl, by decide, by decide⟩
    | 7, _ => exact ⟨_, rfl, by decide, by decide⟩
theorem q82_one {ρ : Nat → Int32} (h5 : ρ 5 = ρ 0 &&& 63) {k a : Nat} {M : q20_M} {N : q4_M} {outs : List (q20_E × q20_M × Option q20_V)} (h : q82_run k a M = some outs) (hR : q21_R ρ M N) : ∃ o ∈ outs, ∃ (v : Option Value) (N' : q4_M), q4_run 20000 k 0 [(0, .ref a)] [] N 0 0 = some (v, N') ∧ q23_opt ρ o.2.2 v ∧ q21_R ρ o.2.1 N' := by
  obtain ⟨o, ho, -, v, N', g2, g3, g4⟩ := q26_run h5 20000 k 0 _ _ _ _ _ _ _ h [(0, .ref a)] [] N (fun i q hq => by simp at hq) ⟨⟨rfl, (by show Value.ref a = .ref ((a : Int)).toNat; rfl)⟩, trivial⟩ trivial hR
  exact ⟨o, ho, v, N', g2, g3, g4⟩
/-- what the two constructors make -/
theorem q82_made (x : q4_C) : ∃ N1 N2 : q4_M, N1.1 = 99 ∧ q81_ok N1 ∧ N2.1 = 124 ∧ q81_ok N2
    ∧ q62_ev 1 0 (lv_args 0 [.ref 3]) [] (q4_new (q82_N0 x) (8, q2_N 6, fun j => defaultValue (q2_ty 6 j))) 0 0 (none, q81_sw N1 x)
    ∧ q62_ev 150 0 (lv_args 0 [.ref 99]) [] (q4_new (q81_sw N1 x) (9, q2_N 7, fun j => defaultValue (q2_ty 7 j))) 0 0 (none, q81_sw N2 x)
    ∧ (∀ a, 0 < a → a < 124 → (N2.2 a).1 = q51_kind a ∧ (N2.2 a).2.1 = q51_len a ∧ ∀ j, j < q51_len a → q52_g [] (q51_G a j) ((N2.2 a).2.2 j))
    ∧ (∀ q ∈ q82_zs, (N2.2 q.1).2.2 q.2 = .int 0) ∧ (∀ j, j < 8 → (N2.2 87).2.2 j = .int 0) := by
  have hk := q82_k
  unfold q82_ok at hk
  split at hk
  · next E1 M1 h1 =>
    rw [Bool.and_eq_true] at hk
    obtain ⟨hk1, hk2⟩ := hk
    have hk1 : M1.1 = 99 := Nat.eq_of_beq_eq_true hk1
    split at hk2
    · next E2 M2 h2 =>
      unfold q82_fin at hk2
      simp only [Bool.and_eq_true] at hk2
      obtain ⟨⟨⟨f1, f2⟩, f3⟩, f4⟩ := hk2
      have f1 : M2.1 = 124 := Nat.eq_of_beq_eq_true f1
      obtain ⟨o, ho, v, N1, g1, g2, g3⟩ := q82_one (ρ := fun _ => 0) (by decide) h1 (q82_objR (c := 6) (by decide) q82_R0 (by decide))
      rw [List.mem_singleton.mp ho] at g2 g3
      have hv : v = none := by
        cases v with
        | none => rfl
        | some z => cases g2
      subst hv
      have g3 : q21_R (fun _ => 0) M1 N1 := g3
      have n1 : N1.1 = 99 := g3.1.symm.trans hk1
      have ok0 : q81_ok (q82_N0 q82_x0) := ⟨rfl, Nat.le_refl 3⟩
      obtain ⟨r1, ok1⟩ := q81_run (x := x) _ _ _ _ _ _ _ _ _ _ (q81_newok ok0) g1
      obtain ⟨o2, ho2, v2, N2, d1, d2, d3⟩ := q82_one (ρ := fun _ => 0) (by decide) h2 (q82_objR (c := 7) (by decide) g3 (by omega))
      rw [List.mem_singleton.mp ho2] at d2 d3
      have hv2 : v2 = none := by
        cases v2 with
        | none => rfl
        | some z => cases d2
      subst hv2
      have d3 : q21_R (fun _ => 0) M2 N2 := d3
      have n2 : N2.1 = 124 := d3.1.symm.trans f1
      obtain ⟨r2, ok2⟩ := q81_run (x := x) _ _ _ _ _ _ _ _ _ _ (q81_newok ok1) d1
      have cells : ∀ a, 0 < a → a < 124 → (N2.2 a).1 = q51_kind a ∧ (N2.2 a).2.1 = q51_len a ∧ ∀ j, j < q51_len a → q52_g [] (q51_G a j) ((N2.2 a).2.2 j) := by
        intro a a0 a1
        have h := List.all_eq_true.mp f2 a (List.mem_range.mpr a1)
        rw [Bool.or_eq_true] at h
        rcases h with h | h
        · have := Nat.eq_of_beq_eq_true h
          omega
        · exact q82_cellS d3 (by omega) h
      have lens : ∀ a, 0 < a → a < 124 → (q20_tget 8 M2.2 a).2.1 = q51_len a := fun a a0 a1 => (d3.2.2 a (by omega)).2.1.symm.trans (cells a a0 a1).2.1
      have sw0 : q81_sw (q82_N0 q82_x0) x = q82_N0 x := by
        unfold q82_N0
        show (3, fun k => _) = (3, fun k => _)
        congr 1
        funext k
        show (if k = 0 then x else if k = 0 then q82_x0 else _) = if k = 0 then x else _
        by_cases e : k = 0
        · rw [if_pos e, if_pos e]
        · rw [if_neg e, if_neg e, if_neg e]
      rw [← q81_new _ _ _ ok0.2, sw0] at r1
      rw [← q81_new _ _ _ ok1.2] at r2
      refine ⟨N1, N2, n1, ok1, n2, ok2, ⟨20000, r1⟩, ⟨20000, r2⟩, cells, ?_, ?_⟩
      · intro q hq
        have hz := List.all_eq_true.mp f3 q hq
        have hb := List.all_eq_true.mp (show q82_zs.all (fun q => Nat.blt 0 q.1 && Nat.blt q.1 124 && Nat.blt q.2 (q51_len q.1)) = true by decide +kernel) q hq
        simp only [Bool.and_eq_true, q54_lq, decide_eq_true_eq] at hb
        exact q82_zS d3 (by omega) (by rw [lens q.1 hb.1.1 hb.1.2]; exact hb.2) hz
      · intro j hj
        exact q82_zS d3 (by omega) (by rw [lens 87 (by decide) (by decide)]; exact hj) (List.all_eq_true.mp f4 j (List.mem_range.mpr hj))
    · cases hk2
  · cases hk
