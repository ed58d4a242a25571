/-! the walk's open instructions -/
def q23_opt (ρ : Nat → Int32) (a : Option q20_V) (x : Option Value) : Prop := match a, x with
  | none, none => True
  | some a, some x => q20_g ρ a x
  | _, _ => False
def q23_rel (ρ : Nat → Int32) (b : q20_F ⊕ ((Nat × List q20_V × List q20_V) ⊕ (Option q20_V))) (r : q4_R) : Prop := match b, r with
  | .inl (pc, lv, st, M, ce, sl), .inl (pc', lv', st', N, ce', sl') => pc = pc' ∧ q21_L ρ lv lv' ∧ q21_S ρ st st' ∧ q21_R ρ M N ∧ ce = ce' ∧ sl = sl'
  | .inr (.inl (y, as, rest)), .inr (.inl (y', as', rest')) => y = y' ∧ q21_S ρ as as' ∧ q21_S ρ rest rest'
  | .inr (.inr v), .inr (.inr v') => q23_opt ρ v v'
  | _, _ => False
theorem q23_one {ρ : Nat → Int32} {E : q20_E} {bs : List q20_B} {b : q20_F ⊕ ((Nat × List q20_V × List q20_V) ⊕ (Option q20_V))} {r : q4_R} {o : Option q4_R} (hE : q20_ok ρ E) (h : some [(E, b)] = some bs) (ho : o = some r) (hr : q23_rel ρ b r) : ∃ b ∈ bs, q20_ok ρ b.1 ∧ ∃ r, o = some r ∧ q23_rel ρ b.2 r := by
  cases h
  exact ⟨(E, b), List.mem_singleton_self _, hE, r, ho, hr⟩
theorem q23_any {ρ : Nat → Int32} (z : Int32) : q20_g ρ q20_any (.int z) := ⟨z, rfl, q21_rng z⟩
theorem q23_all {α β : Type} {f : α → Option (List β)} : ∀ {l : List α} {bs : List β}, q20_all f l = some bs → ∀ a ∈ l, ∃ c, f a = some c ∧ ∀ z ∈ c, z ∈ bs
  | [], _, _, a, ha => by cases ha
  | x :: l, bs, h, a, ha => by
    unfold q20_all at h
    cases h1 : f x with
    | none => rw [h1] at h; cases h
    | some b =>
      cases h2 : q20_all f l with
      | none => rw [h1, h2] at h; cases h
      | some c =>
        rw [h1, h2] at h
        cases h
        rcases List.mem_cons.mp ha with rfl | ha
        · exact ⟨b, h1, fun z hz => List.mem_append.mpr (Or.inl hz)⟩
        · obtain ⟨d, hd, hz⟩ := q23_all h2 a ha
          exact ⟨d, hd, fun z h => List.mem_append.mpr (Or.inr (hz z h))⟩
theorem q23_each {α β : Type} {f : α → Option (List β)} {l : List α} {bs : List β} (h : q20_each f l = some bs) : ∀ a ∈ l, ∃ c, f a = some c ∧ ∀ z ∈ c, z ∈ bs := by
  unfold q20_each at h
  split at h
  · next a =>
    intro x hx
    rw [List.mem_singleton.mp hx]
    exact ⟨bs, h, fun _ hz => hz⟩
  · exact q23_all h
theorem q23_bm {z : Int} (h1 : -2147483648 ≤ z) (h2 : z ≤ 2147483647) : z.bmod (2 ^ 32) = z := by
  have e : ((2 ^ 32 : Nat) : Int) = 4294967296 := rfl
  unfold Int.bmod
  rw [e]
  dsimp only
  split <;> omega
theorem q23_tab {ρ : Nat → Int32} {E : q20_E} (hE : q20_ok ρ E) {v : q20_V} {X : Int32} (hg : q20_g ρ v (.int X)) : ∀ (n : Nat) (x : Int), x ≤ X.toInt → X.toInt < x + n → ∃ E', (X.toInt, E') ∈ q20_tab E v x n ∧ q20_ok ρ E'
  | 0, x, h1, h2 => by omega
  | n + 1, x, h1, h2 => by
    by_cases e : X.toInt = x
    · refine ⟨_, by rw [e]; exact List.mem_cons_self, ?_⟩
      cases hb : Nat.beq v.1 1 with
      | false => exact hE
      | true =>
        obtain ⟨t, i, b⟩ := v
        have ht : t = 1 := Nat.eq_of_beq_eq_true hb
        subst ht
        have hX : Value.int X = .int (ρ i.toNat) := hg
        cases hX
        exact q22_set hE (by dsimp only; omega) (by dsimp only; omega)
    · obtain ⟨E', h, hE'⟩ := q23_tab hE hg n (x + 1) (by omega) (by omega)
      exact ⟨E', List.mem_cons_of_mem _ h, hE'⟩
theorem q23_isint {ρ : Nat → Int32} {E : q20_E} (hE : q20_ok ρ E) {v : q20_V} {x : Value} (hg : q20_g ρ v x) (h : q20_isi E v = true) : ∃ X : Int32, x = .int X := by
  unfold q20_isi at h
  cases hi : q20_iv E v with
  | some q => obtain ⟨z, hz, -⟩ := q21_iv hE hi hg; exact ⟨z, hz⟩
  | none =>
    rw [hi] at h
    obtain ⟨t, i, b⟩ := v
    have ht : t = 4 := Nat.eq_of_beq_eq_true h
    subst ht
    exact ⟨_, hg⟩
theorem q23_open {ρ : Nat → Int32} (h5 : ρ 5 = ρ 0 &&& 63) {k pc len ce sl : Nat} {lv : List (Nat × q20_V)} {st : List q20_V} {M : q20_M} {E : q20_E} {i : Instr} {bs : List q20_B} {lvc : List (Nat × Value)} {stc : List Value} {N : q4_M} (hE : q20_ok ρ E) (h : q20_open pc len lv st M ce sl E i = some bs) (hL : q21_L ρ lv lvc) (hS : q21_S ρ st stc) (hR : q21_R ρ M N) :
    ∃ b ∈ bs, q20_ok ρ b.1 ∧ ∃ r, q4_step k pc len lvc stc N ce sl i = some r ∧ q23_rel ρ b.2 r := by
  unfold q20_open at h
  dsimp only at h
  split at h
  · -- iadd
    next y x r =>
    obtain ⟨Yv, t1, rfl, gy, hS1⟩ := hS.cons
    obtain ⟨Xv, t2, rfl, gx, hS2⟩ := hS1.cons
    split at h
    · next a b ha hb =>
      obtain ⟨X, rfl, x1, x2⟩ := q21_iv hE ha gx
      obtain ⟨Y, rfl, y1, y2⟩ := q21_iv hE hb gy
      refine q23_one hE h (r := .inl (pc + len, lvc, .int (X + Y) :: t2, N, ce, sl)) rfl ⟨rfl, hL, ⟨?_, hS2⟩, hR, rfl, rfl⟩
      cases hc : (decide (-2147483648 ≤ a.1 + b.1) && decide (a.2 + b.2 ≤ 2147483647)) with
      | false => exact q23_any _
      | true =>
        simp only [Bool.and_eq_true, decide_eq_true_eq] at hc
        refine ⟨_, rfl, ?_⟩
        rw [Int32.toInt_add, q23_bm (by omega) (by omega)]
        omega
    · cases h
  · -- isub
    next y x r =>
    obtain ⟨Yv, t1, rfl, gy, hS1⟩ := hS.cons
    obtain ⟨Xv, t2, rfl, gx, hS2⟩ := hS1.cons
    split at h
    · next a b ha hb =>
      obtain ⟨X, rfl, x1, x2⟩ := q21_iv hE ha gx
      obtain ⟨Y, rfl, y1, y2⟩ := q21_iv hE hb gy
      refine q23_one hE h (r := .inl (pc + len, lvc, .int (X - Y) :: t2, N, ce, sl)) rfl ⟨rfl, hL, ⟨?_, hS2⟩, hR, rfl, rfl⟩
      cases hc : (decide (-2147483648 ≤ a.1 - b.2) && decide (a.2 - b.1 ≤ 2147483647)) with
      | false => exact q23_any _
      | true =>
        simp only [Bool.and_eq_true, decide_eq_true_eq] at hc
        refine ⟨_, rfl, ?_⟩
        rw [Int32.toInt_sub, q23_bm (by omega) (by omega)]
        omega
    · cases h
  · -- imul
    next y x r =>
    obtain ⟨Yv, t1, rfl, gy, hS1⟩ := hS.cons
    obtain ⟨Xv, t2, rfl, gx, hS2⟩ := hS1.cons
    split at h
    · next a b ha hb =>
      obtain ⟨X, rfl, x1, x2⟩ := q21_iv hE ha gx
      obtain ⟨Y, rfl, y1, y2⟩ := q21_iv hE hb gy
      exact q23_one hE h (r := .inl (pc + len, lvc, .int (X * Y) :: t2, N, ce, sl)) rfl ⟨rfl, hL, ⟨q23_any _, hS2⟩, hR, rfl, rfl⟩
    · cases h
  · -- idiv
    next y x r =>
    obtain ⟨Yv, t1, rfl, gy, hS1⟩ := hS.cons
    obtain ⟨Xv, t2, rfl, gx, hS2⟩ := hS1.cons
    split at h
    · next a z ha hb =>
      obtain ⟨X, rfl, x1, x2⟩ := q21_iv hE ha gx
      have hY := q21_c hE hb gy
      subst hY
      cases hc : decide (z = 0) with
      | true => rw [hc] at h; cases h
      | false =>
        rw [hc] at h
        have hz : ¬ z = 0 := of_decide_eq_false hc
        exact q23_one hE h (r := .inl (pc + len, lvc, .int (X / z) :: t2, N, ce, sl)) (by simp only [q4_step, if_neg hz]) ⟨rfl, hL, ⟨q23_any _, hS2⟩, hR, rfl, rfl⟩
    · cases h
  · -- irem
    next y x r =>
    obtain ⟨Yv, t1, rfl, gy, hS1⟩ := hS.cons
    obtain ⟨Xv, t2, rfl, gx, hS2⟩ := hS1.cons
    split at h
    · next a z ha hb =>
      obtain ⟨X, rfl, x1, x2⟩ := q21_iv hE ha gx
      have hY := q21_c hE hb gy
      subst hY
      cases hc : decide (z = 0) with
      | true => rw [hc] at h; cases h
      | false =>
        rw [hc] at h
        have hz : ¬ z = 0 := of_decide_eq_false hc
        exact q23_one hE h (r := .inl (pc + len, lvc, .int (X - X / z * z) :: t2, N, ce, sl)) (by simp only [q4_step, if_neg hz]) ⟨rfl, hL, ⟨q23_any _, hS2⟩, hR, rfl, rfl⟩
    · cases h
  · -- iand
    next y x r =>
    obtain ⟨Yv, t1, rfl, gy, hS1⟩ := hS.cons
    obtain ⟨Xv, t2, rfl, gx, hS2⟩ := hS1.cons
    split at h
    · next b0 z hb =>
      have hX : Xv = .int (ρ 0) := gx
      subst hX
      have hY := q21_c hE hb gy
      subst hY
      cases hc : decide (z = 63) with
      | true =>
        rw [hc] at h
        have hz : z = 63 := of_decide_eq_true hc
        subst hz
        exact q23_one hE h (r := .inl (pc + len, lvc, .int (ρ 0 &&& 63) :: t2, N, ce, sl)) rfl ⟨rfl, hL, ⟨by rw [← h5]; exact rfl, hS2⟩, hR, rfl, rfl⟩
      | false =>
        rw [hc] at h
        exact q23_one hE h (r := .inl (pc + len, lvc, .int (ρ 0 &&& z) :: t2, N, ce, sl)) rfl ⟨rfl, hL, ⟨q23_any _, hS2⟩, hR, rfl, rfl⟩
    · split at h
      · next a b ha hb =>
        obtain ⟨X, rfl, x1, x2⟩ := q21_iv hE ha gx
        obtain ⟨Y, rfl, y1, y2⟩ := q21_iv hE hb gy
        exact q23_one hE h (r := .inl (pc + len, lvc, .int (X &&& Y) :: t2, N, ce, sl)) rfl ⟨rfl, hL, ⟨q23_any _, hS2⟩, hR, rfl, rfl⟩
      · cases h
  · -- i2l
    next x r =>
    obtain ⟨Xv, t2, rfl, gx, hS2⟩ := hS.cons
    split at h
    · next s b0 =>
      have hX : Xv = .int (ρ s.toNat) := gx
      subst hX
      exact q23_one hE h (r := .inl (pc + len, lvc, .long (ρ s.toNat).toInt64 :: t2, N, ce, sl)) rfl ⟨rfl, hL, ⟨rfl, hS2⟩, hR, rfl, rfl⟩
    · next a b =>
      obtain ⟨X, rfl, x1, x2⟩ := gx
      exact q23_one hE h (r := .inl (pc + len, lvc, .long X.toInt64 :: t2, N, ce, sl)) rfl ⟨rfl, hL, ⟨⟨_, rfl, by rw [Int32.toInt_toInt64]; exact ⟨x1, x2⟩⟩, hS2⟩, hR, rfl, rfl⟩
    · cases h
  · -- lcmp
    next y x r =>
    obtain ⟨Yv, t1, rfl, gy, hS1⟩ := hS.cons
    obtain ⟨Xv, t2, rfl, gx, hS2⟩ := hS1.cons
    split at h
    · next s b0 z hb =>
      have hX : Xv = .long (ρ s.toNat).toInt64 := gx
      subst hX
      have hY := q21_c hE hb gy
      subst hY
      exact q23_one hE h (r := .inl (pc + len, lvc, .int (lg_cmp (ρ s.toNat).toInt64 z) :: t2, N, ce, sl)) rfl ⟨rfl, hL, ⟨by show Value.int _ = .int (lg_cmp (ρ s.toNat).toInt64 (Int64.ofInt z.toInt)); rw [Int64.ofInt_toInt], hS2⟩, hR, rfl, rfl⟩
    · cases h
  · -- if_icmp
    next c t y x r =>
    obtain ⟨Yv, t1, rfl, gy, hS1⟩ := hS.cons
    obtain ⟨Xv, t2, rfl, gx, hS2⟩ := hS1.cons
    cases hc : (q20_isi E x && q20_isi E y) with
    | false => rw [hc] at h; cases h
    | true =>
      rw [hc] at h
      simp only [Bool.and_eq_true] at hc
      obtain ⟨X, rfl⟩ := q23_isint hE gx hc.1
      obtain ⟨Y, rfl⟩ := q23_isint hE gy hc.2
      obtain ⟨q, hq, z1, z2⟩ := q22_br hE c gx gy
      cases h
      refine ⟨_, List.mem_map.mpr ⟨q, hq, rfl⟩, z1, .inl (bif q.2 then t.toNat else pc + len, lvc, t2, N, ce, sl), ?_, ⟨rfl, hL, hS2, hR, rfl, rfl⟩⟩
      simp only [q4_step, z2]
      cases hb : q4_icmp c X Y <;> rfl
  · -- ifCond
    next c t x r =>
    obtain ⟨Xv, t2, rfl, gx, hS2⟩ := hS.cons
    cases hc : q20_isi E x with
    | false => rw [hc] at h; cases h
    | true =>
      rw [hc] at h
      obtain ⟨X, rfl⟩ := q23_isint hE gx hc
      obtain ⟨q, hq, z1, z2⟩ := q22_br hE c (y := q20_int 0) (Y := 0) gx ⟨0, rfl, by decide⟩
      cases h
      refine ⟨_, List.mem_map.mpr ⟨q, hq, rfl⟩, z1, .inl (bif q.2 then t.toNat else pc + len, lvc, t2, N, ce, sl), ?_, ⟨rfl, hL, hS2, hR, rfl, rfl⟩⟩
      simp only [q4_step, z2]
      cases hb : q4_icmp c X 0 <;> rfl
  · -- tableswitch
    next d lo hi ts x r =>
    obtain ⟨Xv, t2, rfl, gx, hS2⟩ := hS.cons
    split at h
    · next a b ha =>
      obtain ⟨X, rfl, x1, x2⟩ := q21_iv hE ha gx
      dsimp only at x1 x2
      cases hc : (Nat.beq x.1 1 && !(decide (x.2.1.toNat < E.length))) with
      | true => rw [hc] at h; cases h
      | false =>
        rw [hc, cond_false] at h
        split at h
        · next bs0 hbs =>
          cases h
          -- the symbol's new interval
          have keep : ∀ (u v : Int), u ≤ X.toInt → X.toInt ≤ v → q20_ok ρ (bif Nat.beq x.1 1 then E.set x.2.1.toNat (u, v) else E) := by
            intro u v hu hv
            cases hb : Nat.beq x.1 1 with
            | false => exact hE
            | true =>
              obtain ⟨tt, i, bb⟩ := x
              have ht : tt = 1 := Nat.eq_of_beq_eq_true hb
              subst ht
              have hX : Value.int X = .int (ρ i.toNat) := gx
              cases hX
              exact q22_set hE hu hv
          by_cases hlo : X.toInt < lo
          · refine ⟨((bif Nat.beq x.1 1 then E.set x.2.1.toNat (a, min b (lo - 1)) else E), .inl (d.toNat, lv, r, M, ce, sl)), List.mem_append.mpr (Or.inl (List.mem_append.mpr (Or.inr ?_))), keep a (min b (lo - 1)) x1 (by omega), .inl (d.toNat, lvc, t2, N, ce, sl), by simp only [q4_step, if_pos (Or.inl hlo)], ⟨rfl, hL, hS2, hR, rfl, rfl⟩⟩
            rw [show decide (a < lo) = true from decide_eq_true (by omega), cond_true]
            exact List.mem_singleton_self _
          · by_cases hhi : hi < X.toInt
            · refine ⟨((bif Nat.beq x.1 1 then E.set x.2.1.toNat (max a (hi + 1), b) else E), .inl (d.toNat, lv, r, M, ce, sl)), List.mem_append.mpr (Or.inr ?_), keep (max a (hi + 1)) b (by omega) x2, .inl (d.toNat, lvc, t2, N, ce, sl), by simp only [q4_step, if_pos (Or.inr hhi)], ⟨rfl, hL, hS2, hR, rfl, rfl⟩⟩
              rw [show decide (hi < b) = true from decide_eq_true (by omega), cond_true]
              exact List.mem_singleton_self _
            · obtain ⟨E', hm, hE'⟩ := q23_tab hE gx ((min hi b) - (max lo a) + 1).toNat (max lo a) (by omega) (by omega)
              obtain ⟨c, hc1, hc2⟩ := q23_all hbs _ hm
              dsimp only at hc1
              split at hc1
              · next t ht =>
                cases hc1
                refine ⟨_, List.mem_append.mpr (Or.inl (List.mem_append.mpr (Or.inl (hc2 _ (List.mem_singleton_self _))))), hE', .inl (t.toNat, lvc, t2, N, ce, sl), ?_, ⟨rfl, hL, hS2, hR, rfl, rfl⟩⟩
                simp only [q4_step, if_neg (show ¬ (X.toInt < lo ∨ hi < X.toInt) by omega), ht]
              · cases hc1
        · cases h
    · cases h
  · cases h
